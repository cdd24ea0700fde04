theorem d_PT_isWithin_0 : decode b_PT_isWithin 0 = .ok (.iload_n 0, 1) := by decide +kernel
theorem d_PT_isWithin_1 : decode b_PT_isWithin 1 = .ok (.iload_n 1, 1) := by decide +kernel
theorem d_PT_isWithin_2 : decode b_PT_isWithin 2 = .ok (.if_icmp .lt 12, 3) := by decide +kernel
theorem d_PT_isWithin_5 : decode b_PT_isWithin 5 = .ok (.iload_n 0, 1) := by decide +kernel
theorem d_PT_isWithin_6 : decode b_PT_isWithin 6 = .ok (.iload_n 2, 1) := by decide +kernel
theorem d_PT_isWithin_7 : decode b_PT_isWithin 7 = .ok (.if_icmp .gt 7, 3) := by decide +kernel
theorem d_PT_isWithin_10 : decode b_PT_isWithin 10 = .ok (.iconst 1, 1) := by decide +kernel
theorem d_PT_isWithin_11 : decode b_PT_isWithin 11 = .ok (.goto 4, 3) := by decide +kernel
theorem d_PT_isWithin_14 : decode b_PT_isWithin 14 = .ok (.iconst 0, 1) := by decide +kernel
theorem d_PT_isWithin_15 : decode b_PT_isWithin 15 = .ok (.ireturn, 1) := by decide +kernel
def s_PT_isWithin_0 (σ : MI) (τ : ML) (a0 : Int32) (a1 : Int32) (a2 : Int32) (R : Int32 → MI → ML → Prop) : Prop :=
  (a0 < a1 →
  ((0 = (0 : Int32) ∨ 0 = (1 : Int32)) ∧ R 0 σ τ)) ∧
  (¬ a0 < a1 →
  ((a2 < a0 →
    ((0 = (0 : Int32) ∨ 0 = (1 : Int32)) ∧ R 0 σ τ)) ∧
    (¬ a2 < a0 →
    ((1 = (0 : Int32) ∨ 1 = (1 : Int32)) ∧ R 1 σ τ))))
set_option maxHeartbeats 4000000 in
set_option maxRecDepth 100000 in
theorem k_PT_isWithin (l : Launch) (D : va_G) (ad : Nat → Nat) (ci cl : ClassId)
    (pre : MI → ML → Int32 → Int32 → Int32 → Prop) (post : MI → ML → Int32 → Int32 → Int32 → Int32 → MI → ML → Prop)
    (v0 : ∀ (σ0 : MI) (τ0 : ML) (a0 : Int32) (a1 : Int32) (a2 : Int32), pre σ0 τ0 a0 a1 a2 → s_PT_isWithin_0 σ0 τ0 a0 a1 a2 (post σ0 τ0 a0 a1 a2)) :
    ∀ (sz : Nat) (σ0 : MI) (τ0 : ML) (a0 : Int32) (a1 : Int32) (a2 : Int32), pre σ0 τ0 a0 a1 a2 → gMi l D (xw ad ci cl) (xt ci cl) (xa ad) y_PT_isWithin w_PT_isWithin rm_PT_isWithin [.int a0, .int a1, .int a2] sz σ0 τ0 (post σ0 τ0 a0 a1 a2) := by
  intro sz σ0 τ0 a0 a1 a2 hpre
  refine gk_ofWi (cc := b_PT_isWithin) (maxL := 3) (ret := (some .boolean)) (by decide) rfl xa_ok (Nat.le_of_ble_eq_true rfl) ?_
  intro p e s m below meth c ls hx hb hr hlocks hml hown hts hK hP hD hS hl
  have hl : lv_has ls 3 [(0, .int a0), (1, .int a1), (2, .int a2)] := hl
  have hown : s.vm.findClass R_PT = some m.cls := hown
  have hv := v0 σ0 τ0 a0 a1 a2 hpre
  unfold s_PT_isWithin_0 at hv
  refine lv_iload_n hx hb d_PT_isWithin_0 rfl (lv_at hl 0 rfl) ?_
  refine lv_iload_n hx hb d_PT_isWithin_1 rfl (lv_at hl 1 rfl) ?_
  refine lv_icmp_lt (tgt := 14) hx hb d_PT_isWithin_2 (by decide) (fun hc => ?_) (fun hc => ?_)
  · replace hv := hv.1 hc
    refine lv_iconst (v := 0) hx hb d_PT_isWithin_14 (by decide) ?_
    obtain ⟨hz, hv⟩ := hv
    exact gk_zret hx hb hr hlocks (gk_nz hz) hK hP hD hS hv d_PT_isWithin_15
  · replace hv := hv.2 hc
    refine lv_iload_n hx hb d_PT_isWithin_5 rfl (lv_at hl 0 rfl) ?_
    refine lv_iload_n hx hb d_PT_isWithin_6 rfl (lv_at hl 2 rfl) ?_
    refine lv_icmp_gt (tgt := 14) hx hb d_PT_isWithin_7 (by decide) (fun hc => ?_) (fun hc => ?_)
    · replace hv := hv.1 hc
      refine lv_iconst (v := 0) hx hb d_PT_isWithin_14 (by decide) ?_
      obtain ⟨hz, hv⟩ := hv
      exact gk_zret hx hb hr hlocks (gk_nz hz) hK hP hD hS hv d_PT_isWithin_15
    · replace hv := hv.2 hc
      refine lv_iconst (v := 1) hx hb d_PT_isWithin_10 (by decide) ?_
      refine lv_goto (tgt := 15) hx hb d_PT_isWithin_11 (by decide) ?_
      obtain ⟨hz, hv⟩ := hv
      exact gk_zret hx hb hr hlocks (gk_nz hz) hK hP hD hS hv d_PT_isWithin_15
theorem d_PT_isLicence_0 : decode b_PT_isLicence 0 = .ok (.iload_n 0, 1) := by decide +kernel
theorem d_PT_isLicence_1 : decode b_PT_isLicence 1 = .ok (.iconst 1, 1) := by decide +kernel
theorem d_PT_isLicence_2 : decode b_PT_isLicence 2 = .ok (.iconst 5, 1) := by decide +kernel
theorem d_PT_isLicence_3 : decode b_PT_isLicence 3 = .ok (.invokestatic 86, 3) := by decide +kernel
theorem d_PT_isLicence_6 : decode b_PT_isLicence 6 = .ok (.ireturn, 1) := by decide +kernel
def s_PT_isLicence_0 (P_PT_isWithin : MI → ML → Int32 → Int32 → Int32 → Prop) (Q_PT_isWithin : MI → ML → Int32 → Int32 → Int32 → Int32 → MI → ML → Prop) (σ : MI) (τ : ML) (a0 : Int32) (R : Int32 → MI → ML → Prop) : Prop :=
  P_PT_isWithin σ τ a0 1 5 ∧ ∀ (r3 : Int32) (s3 : MI) (t3 : ML), Q_PT_isWithin σ τ a0 1 5 r3 s3 t3 → ((r3 = (0 : Int32) ∨ r3 = (1 : Int32)) ∧ R r3 s3 t3)
set_option maxHeartbeats 4000000 in
set_option maxRecDepth 100000 in
theorem k_PT_isLicence (l : Launch) (D : va_G) (ad : Nat → Nat) (ci cl : ClassId)
    (pre : MI → ML → Int32 → Prop) (post : MI → ML → Int32 → Int32 → MI → ML → Prop) (P_PT_isWithin : MI → ML → Int32 → Int32 → Int32 → Prop) (Q_PT_isWithin : MI → ML → Int32 → Int32 → Int32 → Int32 → MI → ML → Prop)
    (h_PT_isWithin : ∀ (sz : Nat) (σ : MI) (τ : ML) (b0 : Int32) (b1 : Int32) (b2 : Int32), P_PT_isWithin σ τ b0 b1 b2 → gMi l D (xw ad ci cl) (xt ci cl) (xa ad) y_PT_isWithin w_PT_isWithin rm_PT_isWithin [.int b0, .int b1, .int b2] sz σ τ (Q_PT_isWithin σ τ b0 b1 b2))
    (v0 : ∀ (σ0 : MI) (τ0 : ML) (a0 : Int32), pre σ0 τ0 a0 → s_PT_isLicence_0 P_PT_isWithin Q_PT_isWithin σ0 τ0 a0 (post σ0 τ0 a0)) :
    ∀ (sz : Nat) (σ0 : MI) (τ0 : ML) (a0 : Int32), pre σ0 τ0 a0 → gMi l D (xw ad ci cl) (xt ci cl) (xa ad) y_PT_isLicence w_PT_isLicence rm_PT_isLicence [.int a0] sz σ0 τ0 (post σ0 τ0 a0) := by
  intro sz σ0 τ0 a0 hpre
  refine gk_ofWi (cc := b_PT_isLicence) (maxL := 1) (ret := (some .boolean)) (by decide) rfl xa_ok (Nat.le_of_ble_eq_true rfl) ?_
  intro p e s m below meth c ls hx hb hr hlocks hml hown hts hK hP hD hS hl
  have hl : lv_has ls 1 [(0, .int a0)] := hl
  have hown : s.vm.findClass R_PT = some m.cls := hown
  have hv := v0 σ0 τ0 a0 hpre
  unfold s_PT_isLicence_0 at hv
  refine lv_iload_n hx hb d_PT_isLicence_0 rfl (lv_at hl 0 rfl) ?_
  refine lv_iconst (v := 1) hx hb d_PT_isLicence_1 (by decide) ?_
  refine lv_iconst (v := 5) hx hb d_PT_isLicence_2 (by decide) ?_
  obtain ⟨hg, hv⟩ := hv
  refine gk_callSi (As := [.int a0, .int 1, .int 5]) (rest := []) ⟨hx, hb, hml, hown, hts⟩ (h_PT_isWithin _ σ0 τ0 a0 1 5 hg) (gk_cwS 3 hts t_w6 rfl rfl rfl (hts _ t_w3) (hts _ t_w4) (hts _ t_w5) (by decide +kernel) ⟨Nat.le_of_ble_eq_true rfl, Nat.le_of_ble_eq_true rfl⟩) hK hP hD hS rfl hl.1 rfl (lv_room (Nat.le_of_ble_eq_true rfl)) d_PT_isLicence_3 ⟨Nat.zero_le _, Nat.zero_le _⟩ ?_
  intro r3 s3 t3 H locs hw hP hD hS
  replace hv := hv r3 s3 t3 hw
  obtain ⟨hz, hv⟩ := hv
  exact gk_zret hx hb hr hlocks (gk_nz hz) hK hP hD hS hv d_PT_isLicence_6
theorem d_PT_isSpan_0 : decode b_PT_isSpan 0 = .ok (.iload_n 0, 1) := by decide +kernel
theorem d_PT_isSpan_1 : decode b_PT_isSpan 1 = .ok (.ifCond .lt 19, 3) := by decide +kernel
theorem d_PT_isSpan_4 : decode b_PT_isSpan 4 = .ok (.iload_n 0, 1) := by decide +kernel
theorem d_PT_isSpan_5 : decode b_PT_isSpan 5 = .ok (.iload_n 1, 1) := by decide +kernel
theorem d_PT_isSpan_6 : decode b_PT_isSpan 6 = .ok (.if_icmp .ge 14, 3) := by decide +kernel
theorem d_PT_isSpan_9 : decode b_PT_isSpan 9 = .ok (.iload_n 1, 1) := by decide +kernel
theorem d_PT_isSpan_10 : decode b_PT_isSpan 10 = .ok (.sipush 2880, 3) := by decide +kernel
theorem d_PT_isSpan_13 : decode b_PT_isSpan 13 = .ok (.if_icmp .gt 7, 3) := by decide +kernel
theorem d_PT_isSpan_16 : decode b_PT_isSpan 16 = .ok (.iconst 1, 1) := by decide +kernel
theorem d_PT_isSpan_17 : decode b_PT_isSpan 17 = .ok (.goto 4, 3) := by decide +kernel
theorem d_PT_isSpan_20 : decode b_PT_isSpan 20 = .ok (.iconst 0, 1) := by decide +kernel
theorem d_PT_isSpan_21 : decode b_PT_isSpan 21 = .ok (.ireturn, 1) := by decide +kernel
def s_PT_isSpan_0 (σ : MI) (τ : ML) (a0 : Int32) (a1 : Int32) (R : Int32 → MI → ML → Prop) : Prop :=
  (a0 < 0 →
  ((0 = (0 : Int32) ∨ 0 = (1 : Int32)) ∧ R 0 σ τ)) ∧
  (¬ a0 < 0 →
  ((a1 ≤ a0 →
    ((0 = (0 : Int32) ∨ 0 = (1 : Int32)) ∧ R 0 σ τ)) ∧
    (¬ a1 ≤ a0 →
    ((2880 < a1 →
      ((0 = (0 : Int32) ∨ 0 = (1 : Int32)) ∧ R 0 σ τ)) ∧
      (¬ 2880 < a1 →
      ((1 = (0 : Int32) ∨ 1 = (1 : Int32)) ∧ R 1 σ τ))))))
set_option maxHeartbeats 4000000 in
set_option maxRecDepth 100000 in
theorem k_PT_isSpan (l : Launch) (D : va_G) (ad : Nat → Nat) (ci cl : ClassId)
    (pre : MI → ML → Int32 → Int32 → Prop) (post : MI → ML → Int32 → Int32 → Int32 → MI → ML → Prop)
    (v0 : ∀ (σ0 : MI) (τ0 : ML) (a0 : Int32) (a1 : Int32), pre σ0 τ0 a0 a1 → s_PT_isSpan_0 σ0 τ0 a0 a1 (post σ0 τ0 a0 a1)) :
    ∀ (sz : Nat) (σ0 : MI) (τ0 : ML) (a0 : Int32) (a1 : Int32), pre σ0 τ0 a0 a1 → gMi l D (xw ad ci cl) (xt ci cl) (xa ad) y_PT_isSpan w_PT_isSpan rm_PT_isSpan [.int a0, .int a1] sz σ0 τ0 (post σ0 τ0 a0 a1) := by
  intro sz σ0 τ0 a0 a1 hpre
  refine gk_ofWi (cc := b_PT_isSpan) (maxL := 2) (ret := (some .boolean)) (by decide) rfl xa_ok (Nat.le_of_ble_eq_true rfl) ?_
  intro p e s m below meth c ls hx hb hr hlocks hml hown hts hK hP hD hS hl
  have hl : lv_has ls 2 [(0, .int a0), (1, .int a1)] := hl
  have hown : s.vm.findClass R_PT = some m.cls := hown
  have hv := v0 σ0 τ0 a0 a1 hpre
  unfold s_PT_isSpan_0 at hv
  refine lv_iload_n hx hb d_PT_isSpan_0 rfl (lv_at hl 0 rfl) ?_
  refine lv_if_lt (tgt := 20) hx hb d_PT_isSpan_1 (by decide) (fun hc => ?_) (fun hc => ?_)
  · replace hv := hv.1 hc
    refine lv_iconst (v := 0) hx hb d_PT_isSpan_20 (by decide) ?_
    obtain ⟨hz, hv⟩ := hv
    exact gk_zret hx hb hr hlocks (gk_nz hz) hK hP hD hS hv d_PT_isSpan_21
  · replace hv := hv.2 hc
    refine lv_iload_n hx hb d_PT_isSpan_4 rfl (lv_at hl 0 rfl) ?_
    refine lv_iload_n hx hb d_PT_isSpan_5 rfl (lv_at hl 1 rfl) ?_
    refine lv_icmp_ge (tgt := 20) hx hb d_PT_isSpan_6 (by decide) (fun hc => ?_) (fun hc => ?_)
    · replace hv := hv.1 hc
      refine lv_iconst (v := 0) hx hb d_PT_isSpan_20 (by decide) ?_
      obtain ⟨hz, hv⟩ := hv
      exact gk_zret hx hb hr hlocks (gk_nz hz) hK hP hD hS hv d_PT_isSpan_21
    · replace hv := hv.2 hc
      refine lv_iload_n hx hb d_PT_isSpan_9 rfl (lv_at hl 1 rfl) ?_
      refine lv_sipush (v := 2880) hx hb d_PT_isSpan_10 (by decide) ?_
      refine lv_icmp_gt (tgt := 20) hx hb d_PT_isSpan_13 (by decide) (fun hc => ?_) (fun hc => ?_)
      · replace hv := hv.1 hc
        refine lv_iconst (v := 0) hx hb d_PT_isSpan_20 (by decide) ?_
        obtain ⟨hz, hv⟩ := hv
        exact gk_zret hx hb hr hlocks (gk_nz hz) hK hP hD hS hv d_PT_isSpan_21
      · replace hv := hv.2 hc
        refine lv_iconst (v := 1) hx hb d_PT_isSpan_16 (by decide) ?_
        refine lv_goto (tgt := 21) hx hb d_PT_isSpan_17 (by decide) ?_
        obtain ⟨hz, hv⟩ := hv
        exact gk_zret hx hb hr hlocks (gk_nz hz) hK hP hD hS hv d_PT_isSpan_21
theorem d_PT_isPlace_0 : decode b_PT_isPlace 0 = .ok (.iload_n 0, 1) := by decide +kernel
theorem d_PT_isPlace_1 : decode b_PT_isPlace 1 = .ok (.iconst 0, 1) := by decide +kernel
theorem d_PT_isPlace_2 : decode b_PT_isPlace 2 = .ok (.iconst 4, 1) := by decide +kernel
theorem d_PT_isPlace_3 : decode b_PT_isPlace 3 = .ok (.invokestatic 86, 3) := by decide +kernel
theorem d_PT_isPlace_6 : decode b_PT_isPlace 6 = .ok (.ireturn, 1) := by decide +kernel
def s_PT_isPlace_0 (P_PT_isWithin : MI → ML → Int32 → Int32 → Int32 → Prop) (Q_PT_isWithin : MI → ML → Int32 → Int32 → Int32 → Int32 → MI → ML → Prop) (σ : MI) (τ : ML) (a0 : Int32) (R : Int32 → MI → ML → Prop) : Prop :=
  P_PT_isWithin σ τ a0 0 4 ∧ ∀ (r3 : Int32) (s3 : MI) (t3 : ML), Q_PT_isWithin σ τ a0 0 4 r3 s3 t3 → ((r3 = (0 : Int32) ∨ r3 = (1 : Int32)) ∧ R r3 s3 t3)
set_option maxHeartbeats 4000000 in
set_option maxRecDepth 100000 in
theorem k_PT_isPlace (l : Launch) (D : va_G) (ad : Nat → Nat) (ci cl : ClassId)
    (pre : MI → ML → Int32 → Prop) (post : MI → ML → Int32 → Int32 → MI → ML → Prop) (P_PT_isWithin : MI → ML → Int32 → Int32 → Int32 → Prop) (Q_PT_isWithin : MI → ML → Int32 → Int32 → Int32 → Int32 → MI → ML → Prop)
    (h_PT_isWithin : ∀ (sz : Nat) (σ : MI) (τ : ML) (b0 : Int32) (b1 : Int32) (b2 : Int32), P_PT_isWithin σ τ b0 b1 b2 → gMi l D (xw ad ci cl) (xt ci cl) (xa ad) y_PT_isWithin w_PT_isWithin rm_PT_isWithin [.int b0, .int b1, .int b2] sz σ τ (Q_PT_isWithin σ τ b0 b1 b2))
    (v0 : ∀ (σ0 : MI) (τ0 : ML) (a0 : Int32), pre σ0 τ0 a0 → s_PT_isPlace_0 P_PT_isWithin Q_PT_isWithin σ0 τ0 a0 (post σ0 τ0 a0)) :
    ∀ (sz : Nat) (σ0 : MI) (τ0 : ML) (a0 : Int32), pre σ0 τ0 a0 → gMi l D (xw ad ci cl) (xt ci cl) (xa ad) y_PT_isPlace w_PT_isPlace rm_PT_isPlace [.int a0] sz σ0 τ0 (post σ0 τ0 a0) := by
  intro sz σ0 τ0 a0 hpre
  refine gk_ofWi (cc := b_PT_isPlace) (maxL := 1) (ret := (some .boolean)) (by decide) rfl xa_ok (Nat.le_of_ble_eq_true rfl) ?_
  intro p e s m below meth c ls hx hb hr hlocks hml hown hts hK hP hD hS hl
  have hl : lv_has ls 1 [(0, .int a0)] := hl
  have hown : s.vm.findClass R_PT = some m.cls := hown
  have hv := v0 σ0 τ0 a0 hpre
  unfold s_PT_isPlace_0 at hv
  refine lv_iload_n hx hb d_PT_isPlace_0 rfl (lv_at hl 0 rfl) ?_
  refine lv_iconst (v := 0) hx hb d_PT_isPlace_1 (by decide) ?_
  refine lv_iconst (v := 4) hx hb d_PT_isPlace_2 (by decide) ?_
  obtain ⟨hg, hv⟩ := hv
  refine gk_callSi (As := [.int a0, .int 0, .int 4]) (rest := []) ⟨hx, hb, hml, hown, hts⟩ (h_PT_isWithin _ σ0 τ0 a0 0 4 hg) (gk_cwS 3 hts t_w6 rfl rfl rfl (hts _ t_w3) (hts _ t_w4) (hts _ t_w5) (by decide +kernel) ⟨Nat.le_of_ble_eq_true rfl, Nat.le_of_ble_eq_true rfl⟩) hK hP hD hS rfl hl.1 rfl (lv_room (Nat.le_of_ble_eq_true rfl)) d_PT_isPlace_3 ⟨Nat.zero_le _, Nat.zero_le _⟩ ?_
  intro r3 s3 t3 H locs hw hP hD hS
  replace hv := hv r3 s3 t3 hw
  obtain ⟨hz, hv⟩ := hv
  exact gk_zret hx hb hr hlocks (gk_nz hz) hK hP hD hS hv d_PT_isPlace_6
theorem d_People_add_0 : decode b_People_add 0 = .ok (.aload_n 0, 1) := by decide +kernel
theorem d_People_add_1 : decode b_People_add 1 = .ok (.getfield 9, 3) := by decide +kernel
theorem d_People_add_4 : decode b_People_add 4 = .ok (.istore 5, 2) := by decide +kernel
theorem d_People_add_6 : decode b_People_add 6 = .ok (.aload_n 0, 1) := by decide +kernel
theorem d_People_add_7 : decode b_People_add 7 = .ok (.getfield 15, 3) := by decide +kernel
theorem d_People_add_10 : decode b_People_add 10 = .ok (.iload 5, 2) := by decide +kernel
theorem d_People_add_12 : decode b_People_add 12 = .ok (.iload_n 1, 1) := by decide +kernel
theorem d_People_add_13 : decode b_People_add 13 = .ok (.iastore, 1) := by decide +kernel
theorem d_People_add_14 : decode b_People_add 14 = .ok (.aload_n 0, 1) := by decide +kernel
theorem d_People_add_15 : decode b_People_add 15 = .ok (.getfield 19, 3) := by decide +kernel
theorem d_People_add_18 : decode b_People_add 18 = .ok (.iload 5, 2) := by decide +kernel
theorem d_People_add_20 : decode b_People_add 20 = .ok (.iload_n 2, 1) := by decide +kernel
theorem d_People_add_21 : decode b_People_add 21 = .ok (.iastore, 1) := by decide +kernel
theorem d_People_add_22 : decode b_People_add 22 = .ok (.aload_n 0, 1) := by decide +kernel
theorem d_People_add_23 : decode b_People_add 23 = .ok (.getfield 22, 3) := by decide +kernel
theorem d_People_add_26 : decode b_People_add 26 = .ok (.iload 5, 2) := by decide +kernel
theorem d_People_add_28 : decode b_People_add 28 = .ok (.iload_n 3, 1) := by decide +kernel
theorem d_People_add_29 : decode b_People_add 29 = .ok (.iastore, 1) := by decide +kernel
theorem d_People_add_30 : decode b_People_add 30 = .ok (.aload_n 0, 1) := by decide +kernel
theorem d_People_add_31 : decode b_People_add 31 = .ok (.getfield 25, 3) := by decide +kernel
theorem d_People_add_34 : decode b_People_add 34 = .ok (.iload 5, 2) := by decide +kernel
theorem d_People_add_36 : decode b_People_add 36 = .ok (.iload 4, 2) := by decide +kernel
theorem d_People_add_38 : decode b_People_add 38 = .ok (.iastore, 1) := by decide +kernel
theorem d_People_add_39 : decode b_People_add 39 = .ok (.aload_n 0, 1) := by decide +kernel
theorem d_People_add_40 : decode b_People_add 40 = .ok (.dup, 1) := by decide +kernel
theorem d_People_add_41 : decode b_People_add 41 = .ok (.getfield 9, 3) := by decide +kernel
theorem d_People_add_44 : decode b_People_add 44 = .ok (.iconst 1, 1) := by decide +kernel
theorem d_People_add_45 : decode b_People_add 45 = .ok (.iadd, 1) := by decide +kernel
theorem d_People_add_46 : decode b_People_add 46 = .ok (.putfield 9, 3) := by decide +kernel
theorem d_People_add_49 : decode b_People_add 49 = .ok (.iload 5, 2) := by decide +kernel
theorem d_People_add_51 : decode b_People_add 51 = .ok (.ireturn, 1) := by decide +kernel
def s_People_add_0 (σ : MI) (τ : ML) (a1 : Int32) (a2 : Int32) (a3 : Int32) (a4 : Int32) (R : Int32 → MI → ML → Prop) : Prop :=
  ∀ y4 : Int32, y4 = σ 1 0 → (vp_in y4 4 ∧ (∀ s13 : MI, s13 = st2 σ 2 (Int32.toNatClampNeg y4) a1 → (vp_in y4 4 ∧ (∀ s21 : MI, s21 = st2 s13 3 (Int32.toNatClampNeg y4) a2 → (vp_in y4 4 ∧ (∀ s29 : MI, s29 = st2 s21 4 (Int32.toNatClampNeg y4) a3 → (vp_in y4 4 ∧ (∀ s38 : MI, s38 = st2 s29 5 (Int32.toNatClampNeg y4) a4 → (∀ s46 : MI, s46 = st2 s38 1 0 ((s38 1 0) + 1) → (R y4 s46 τ))))))))))
set_option maxHeartbeats 4000000 in
set_option maxRecDepth 100000 in
theorem k_People_add (l : Launch) (D : va_G) (ad : Nat → Nat) (ci cl : ClassId)
    (pre : MI → ML → Int32 → Int32 → Int32 → Int32 → Prop) (post : MI → ML → Int32 → Int32 → Int32 → Int32 → Int32 → MI → ML → Prop)
    (v0 : ∀ (σ0 : MI) (τ0 : ML) (a1 : Int32) (a2 : Int32) (a3 : Int32) (a4 : Int32), pre σ0 τ0 a1 a2 a3 a4 → s_People_add_0 σ0 τ0 a1 a2 a3 a4 (post σ0 τ0 a1 a2 a3 a4)) :
    ∀ (sz : Nat) (σ0 : MI) (τ0 : ML) (a1 : Int32) (a2 : Int32) (a3 : Int32) (a4 : Int32), pre σ0 τ0 a1 a2 a3 a4 → gMi l D (xw ad ci cl) (xt ci cl) (xa ad) y_People_add w_People_add rm_People_add [.ref (ad 1), .int a1, .int a2, .int a3, .int a4] sz σ0 τ0 (post σ0 τ0 a1 a2 a3 a4) := by
  intro sz σ0 τ0 a1 a2 a3 a4 hpre
  refine gk_ofWi (cc := b_People_add) (maxL := 6) (ret := (some .int)) (by decide) rfl xa_ok (Nat.le_of_ble_eq_true rfl) ?_
  intro p e s m below meth c ls hx hb hr hlocks hml hown hts hK hP hD hS hl
  have hl : lv_has ls 6 [(0, .ref (ad 1)), (1, .int a1), (2, .int a2), (3, .int a3), (4, .int a4)] := hl
  have hown : s.vm.findClass R_People = some m.cls := hown
  have hv := v0 σ0 τ0 a1 a2 a3 a4 hpre
  unfold s_People_add_0 at hv
  refine lv_aload_n hx hb d_People_add_0 rfl (lv_at hl 0 rfl) ?_
  refine va_get (D := D) (ci := 1) (v := .int (σ0 1 0)) (C := R_People) (T := F_People) (N := 7) hx hb hts iw_People hown hK hP 1 rfl rfl 0 (by decide) (hts _ t_w7) (fun _ h9 => h9) rfl d_People_add_1 ?_
  refine lv_topi (fun y4 ey4 => ?_)
  replace hv := hv y4 ey4
  refine lv_istore (lv' := [(5, .int y4), (0, .ref (ad 1)), (1, .int a1), (2, .int a2), (3, .int a3), (4, .int a4)]) hx hb d_People_add_4 hl (by decide) rfl (fun ls hl => ?_)
  refine lv_aload_n hx hb d_People_add_6 rfl (lv_at hl 1 rfl) ?_
  refine va_get (D := D) (ci := 1) (v := .ref (ad 2)) (C := R_People) (T := F_People) (N := 7) hx hb hts iw_People hown hK hP 1 rfl rfl 1 (by decide) (hts _ t_w8) (fun _ h9 => h9) rfl d_People_add_7 ?_
  refine lv_iload hx hb d_People_add_10 (lv_at hl 0 rfl) ?_
  refine lv_iload_n hx hb d_People_add_12 rfl (lv_at hl 2 rfl) ?_
  obtain ⟨hi, hv⟩ := hv
  refine va_iast hx hb hK hP hD hS 2 0 rfl rfl hi d_People_add_13 (fun H locs hP hD hS => ?_)
  rw [xa_2] at hP hD
  obtain ⟨s13, es13⟩ : ∃ z : MI, z = st2 σ0 2 (Int32.toNatClampNeg y4) a1 := ⟨_, rfl⟩
  rw [← es13] at hP hD
  replace hv := hv s13 es13
  refine lv_aload_n hx hb d_People_add_14 rfl (lv_at hl 1 rfl) ?_
  refine va_get (D := D) (ci := 1) (v := .ref (ad 3)) (C := R_People) (T := F_People) (N := 7) hx hb hts iw_People hown hK hP 1 rfl rfl 2 (by decide) (hts _ t_w9) (fun _ h9 => h9) rfl d_People_add_15 ?_
  refine lv_iload hx hb d_People_add_18 (lv_at hl 0 rfl) ?_
  refine lv_iload_n hx hb d_People_add_20 rfl (lv_at hl 3 rfl) ?_
  obtain ⟨hi, hv⟩ := hv
  refine va_iast hx hb hK hP hD hS 3 0 rfl rfl hi d_People_add_21 (fun H locs hP hD hS => ?_)
  rw [xa_3] at hP hD
  obtain ⟨s21, es21⟩ : ∃ z : MI, z = st2 s13 3 (Int32.toNatClampNeg y4) a2 := ⟨_, rfl⟩
  rw [← es21] at hP hD
  replace hv := hv s21 es21
  refine lv_aload_n hx hb d_People_add_22 rfl (lv_at hl 1 rfl) ?_
  refine va_get (D := D) (ci := 1) (v := .ref (ad 4)) (C := R_People) (T := F_People) (N := 7) hx hb hts iw_People hown hK hP 1 rfl rfl 3 (by decide) (hts _ t_w10) (fun _ h9 => h9) rfl d_People_add_23 ?_
  refine lv_iload hx hb d_People_add_26 (lv_at hl 0 rfl) ?_
  refine lv_iload_n hx hb d_People_add_28 rfl (lv_at hl 4 rfl) ?_
  obtain ⟨hi, hv⟩ := hv
  refine va_iast hx hb hK hP hD hS 4 0 rfl rfl hi d_People_add_29 (fun H locs hP hD hS => ?_)
  rw [xa_4] at hP hD
  obtain ⟨s29, es29⟩ : ∃ z : MI, z = st2 s21 4 (Int32.toNatClampNeg y4) a3 := ⟨_, rfl⟩
  rw [← es29] at hP hD
  replace hv := hv s29 es29
  refine lv_aload_n hx hb d_People_add_30 rfl (lv_at hl 1 rfl) ?_
  refine va_get (D := D) (ci := 1) (v := .ref (ad 5)) (C := R_People) (T := F_People) (N := 7) hx hb hts iw_People hown hK hP 1 rfl rfl 4 (by decide) (hts _ t_w11) (fun _ h9 => h9) rfl d_People_add_31 ?_
  refine lv_iload hx hb d_People_add_34 (lv_at hl 0 rfl) ?_
  refine lv_iload hx hb d_People_add_36 (lv_at hl 5 rfl) ?_
  obtain ⟨hi, hv⟩ := hv
  refine va_iast hx hb hK hP hD hS 5 0 rfl rfl hi d_People_add_38 (fun H locs hP hD hS => ?_)
  rw [xa_5] at hP hD
  obtain ⟨s38, es38⟩ : ∃ z : MI, z = st2 s29 5 (Int32.toNatClampNeg y4) a4 := ⟨_, rfl⟩
  rw [← es38] at hP hD
  replace hv := hv s38 es38
  refine lv_aload_n hx hb d_People_add_39 rfl (lv_at hl 1 rfl) ?_
  refine lv_dup hx hb d_People_add_40 rfl ?_
  refine va_get (D := D) (ci := 1) (v := .int (s38 1 0)) (C := R_People) (T := F_People) (N := 7) hx hb hts iw_People hown hK hP 1 rfl rfl 0 (by decide) (hts _ t_w7) (fun _ h9 => h9) rfl d_People_add_41 ?_
  refine lv_iconst (v := 1) hx hb d_People_add_44 (by decide) ?_
  refine lv_iadd hx hb d_People_add_45 ?_
  refine va_put (D := D) (ci := 1) (v := .int ((s38 1 0) + 1)) (ty := .int) (fs := [.int (s38 1 0), .ref (ad 2), .ref (ad 3), .ref (ad 4), .ref (ad 5), .ref (ad 6), .ref (ad 7)]) (C := R_People) (T := F_People) (N := 7) hx hb hts iw_People ty_People ty_People_ok nn_People hown hK hP hD hS 1 rfl rfl 0 (by decide) (hts _ t_w7) (fun _ h9 => h9) rfl (by decide +kernel) rfl rfl (Nat.le_of_ble_eq_true rfl) d_People_add_46 (fun H locs hP hD hS => ?_)
  rw [xf_1_0] at hP hD
  obtain ⟨s46, es46⟩ : ∃ z : MI, z = st2 s38 1 0 ((s38 1 0) + 1) := ⟨_, rfl⟩
  rw [← es46] at hP hD
  replace hv := hv s46 es46
  refine lv_iload hx hb d_People_add_49 (lv_at hl 0 rfl) ?_
  exact gk_iret hx hb hr hlocks hK hP hD hS hv d_People_add_51
theorem d_Tugs_add_0 : decode b_Tugs_add 0 = .ok (.aload_n 0, 1) := by decide +kernel
theorem d_Tugs_add_1 : decode b_Tugs_add 1 = .ok (.getfield 9, 3) := by decide +kernel
theorem d_Tugs_add_4 : decode b_Tugs_add 4 = .ok (.istore_n 2, 1) := by decide +kernel
theorem d_Tugs_add_5 : decode b_Tugs_add 5 = .ok (.aload_n 0, 1) := by decide +kernel
theorem d_Tugs_add_6 : decode b_Tugs_add 6 = .ok (.getfield 15, 3) := by decide +kernel
theorem d_Tugs_add_9 : decode b_Tugs_add 9 = .ok (.iload_n 2, 1) := by decide +kernel
theorem d_Tugs_add_10 : decode b_Tugs_add 10 = .ok (.iload_n 1, 1) := by decide +kernel
theorem d_Tugs_add_11 : decode b_Tugs_add 11 = .ok (.iastore, 1) := by decide +kernel
theorem d_Tugs_add_12 : decode b_Tugs_add 12 = .ok (.aload_n 0, 1) := by decide +kernel
theorem d_Tugs_add_13 : decode b_Tugs_add 13 = .ok (.dup, 1) := by decide +kernel
theorem d_Tugs_add_14 : decode b_Tugs_add 14 = .ok (.getfield 9, 3) := by decide +kernel
theorem d_Tugs_add_17 : decode b_Tugs_add 17 = .ok (.iconst 1, 1) := by decide +kernel
theorem d_Tugs_add_18 : decode b_Tugs_add 18 = .ok (.iadd, 1) := by decide +kernel
theorem d_Tugs_add_19 : decode b_Tugs_add 19 = .ok (.putfield 9, 3) := by decide +kernel
theorem d_Tugs_add_22 : decode b_Tugs_add 22 = .ok (.iload_n 2, 1) := by decide +kernel
theorem d_Tugs_add_23 : decode b_Tugs_add 23 = .ok (.ireturn, 1) := by decide +kernel
def s_Tugs_add_0 (σ : MI) (τ : ML) (a1 : Int32) (R : Int32 → MI → ML → Prop) : Prop :=
  ∀ y4 : Int32, y4 = σ 15 0 → (vp_in y4 6 ∧ (∀ s11 : MI, s11 = st2 σ 16 (Int32.toNatClampNeg y4) a1 → (∀ s19 : MI, s19 = st2 s11 15 0 ((s11 15 0) + 1) → (R y4 s19 τ))))
set_option maxHeartbeats 4000000 in
set_option maxRecDepth 100000 in
theorem k_Tugs_add (l : Launch) (D : va_G) (ad : Nat → Nat) (ci cl : ClassId)
    (pre : MI → ML → Int32 → Prop) (post : MI → ML → Int32 → Int32 → MI → ML → Prop)
    (v0 : ∀ (σ0 : MI) (τ0 : ML) (a1 : Int32), pre σ0 τ0 a1 → s_Tugs_add_0 σ0 τ0 a1 (post σ0 τ0 a1)) :
    ∀ (sz : Nat) (σ0 : MI) (τ0 : ML) (a1 : Int32), pre σ0 τ0 a1 → gMi l D (xw ad ci cl) (xt ci cl) (xa ad) y_Tugs_add w_Tugs_add rm_Tugs_add [.ref (ad 15), .int a1] sz σ0 τ0 (post σ0 τ0 a1) := by
  intro sz σ0 τ0 a1 hpre
  refine gk_ofWi (cc := b_Tugs_add) (maxL := 3) (ret := (some .int)) (by decide) rfl xa_ok (Nat.le_of_ble_eq_true rfl) ?_
  intro p e s m below meth c ls hx hb hr hlocks hml hown hts hK hP hD hS hl
  have hl : lv_has ls 3 [(0, .ref (ad 15)), (1, .int a1)] := hl
  have hown : s.vm.findClass R_Tugs = some m.cls := hown
  have hv := v0 σ0 τ0 a1 hpre
  unfold s_Tugs_add_0 at hv
  refine lv_aload_n hx hb d_Tugs_add_0 rfl (lv_at hl 0 rfl) ?_
  refine va_get (D := D) (ci := 4) (v := .int (σ0 15 0)) (C := R_Tugs) (T := F_Tugs) (N := 2) hx hb hts iw_Tugs hown hK hP 15 rfl rfl 0 (by decide) (hts _ t_w30) (fun _ h9 => h9) rfl d_Tugs_add_1 ?_
  refine lv_topi (fun y4 ey4 => ?_)
  replace hv := hv y4 ey4
  refine lv_istore_n (lv' := [(2, .int y4), (0, .ref (ad 15)), (1, .int a1)]) hx hb d_Tugs_add_4 rfl hl (by decide) rfl (fun ls hl => ?_)
  refine lv_aload_n hx hb d_Tugs_add_5 rfl (lv_at hl 1 rfl) ?_
  refine va_get (D := D) (ci := 4) (v := .ref (ad 16)) (C := R_Tugs) (T := F_Tugs) (N := 2) hx hb hts iw_Tugs hown hK hP 15 rfl rfl 1 (by decide) (hts _ t_w31) (fun _ h9 => h9) rfl d_Tugs_add_6 ?_
  refine lv_iload_n hx hb d_Tugs_add_9 rfl (lv_at hl 0 rfl) ?_
  refine lv_iload_n hx hb d_Tugs_add_10 rfl (lv_at hl 2 rfl) ?_
  obtain ⟨hi, hv⟩ := hv
  refine va_iast hx hb hK hP hD hS 16 0 rfl rfl hi d_Tugs_add_11 (fun H locs hP hD hS => ?_)
  rw [xa_16] at hP hD
  obtain ⟨s11, es11⟩ : ∃ z : MI, z = st2 σ0 16 (Int32.toNatClampNeg y4) a1 := ⟨_, rfl⟩
  rw [← es11] at hP hD
  replace hv := hv s11 es11
  refine lv_aload_n hx hb d_Tugs_add_12 rfl (lv_at hl 1 rfl) ?_
  refine lv_dup hx hb d_Tugs_add_13 rfl ?_
  refine va_get (D := D) (ci := 4) (v := .int (s11 15 0)) (C := R_Tugs) (T := F_Tugs) (N := 2) hx hb hts iw_Tugs hown hK hP 15 rfl rfl 0 (by decide) (hts _ t_w30) (fun _ h9 => h9) rfl d_Tugs_add_14 ?_
  refine lv_iconst (v := 1) hx hb d_Tugs_add_17 (by decide) ?_
  refine lv_iadd hx hb d_Tugs_add_18 ?_
  refine va_put (D := D) (ci := 4) (v := .int ((s11 15 0) + 1)) (ty := .int) (fs := [.int (s11 15 0), .ref (ad 16)]) (C := R_Tugs) (T := F_Tugs) (N := 2) hx hb hts iw_Tugs ty_Tugs ty_Tugs_ok nn_Tugs hown hK hP hD hS 15 rfl rfl 0 (by decide) (hts _ t_w30) (fun _ h9 => h9) rfl (by decide +kernel) rfl rfl (Nat.le_of_ble_eq_true rfl) d_Tugs_add_19 (fun H locs hP hD hS => ?_)
  rw [xf_15_0] at hP hD
  obtain ⟨s19, es19⟩ : ∃ z : MI, z = st2 s11 15 0 ((s11 15 0) + 1) := ⟨_, rfl⟩
  rw [← es19] at hP hD
  replace hv := hv s19 es19
  refine lv_iload_n hx hb d_Tugs_add_22 rfl (lv_at hl 0 rfl) ?_
  exact gk_iret hx hb hr hlocks hK hP hD hS hv d_Tugs_add_23
theorem d_Jobs_add_0 : decode b_Jobs_add 0 = .ok (.aload_n 0, 1) := by decide +kernel
theorem d_Jobs_add_1 : decode b_Jobs_add 1 = .ok (.getfield 9, 3) := by decide +kernel
theorem d_Jobs_add_4 : decode b_Jobs_add 4 = .ok (.istore 6, 2) := by decide +kernel
theorem d_Jobs_add_6 : decode b_Jobs_add 6 = .ok (.aload_n 0, 1) := by decide +kernel
theorem d_Jobs_add_7 : decode b_Jobs_add 7 = .ok (.getfield 15, 3) := by decide +kernel
theorem d_Jobs_add_10 : decode b_Jobs_add 10 = .ok (.iload 6, 2) := by decide +kernel
theorem d_Jobs_add_12 : decode b_Jobs_add 12 = .ok (.iload_n 1, 1) := by decide +kernel
theorem d_Jobs_add_13 : decode b_Jobs_add 13 = .ok (.iastore, 1) := by decide +kernel
theorem d_Jobs_add_14 : decode b_Jobs_add 14 = .ok (.aload_n 0, 1) := by decide +kernel
theorem d_Jobs_add_15 : decode b_Jobs_add 15 = .ok (.getfield 19, 3) := by decide +kernel
theorem d_Jobs_add_18 : decode b_Jobs_add 18 = .ok (.iload 6, 2) := by decide +kernel
theorem d_Jobs_add_20 : decode b_Jobs_add 20 = .ok (.iload_n 2, 1) := by decide +kernel
theorem d_Jobs_add_21 : decode b_Jobs_add 21 = .ok (.iastore, 1) := by decide +kernel
theorem d_Jobs_add_22 : decode b_Jobs_add 22 = .ok (.aload_n 0, 1) := by decide +kernel
theorem d_Jobs_add_23 : decode b_Jobs_add 23 = .ok (.getfield 22, 3) := by decide +kernel
theorem d_Jobs_add_26 : decode b_Jobs_add 26 = .ok (.iload 6, 2) := by decide +kernel
theorem d_Jobs_add_28 : decode b_Jobs_add 28 = .ok (.iload_n 3, 1) := by decide +kernel
theorem d_Jobs_add_29 : decode b_Jobs_add 29 = .ok (.iastore, 1) := by decide +kernel
theorem d_Jobs_add_30 : decode b_Jobs_add 30 = .ok (.aload_n 0, 1) := by decide +kernel
theorem d_Jobs_add_31 : decode b_Jobs_add 31 = .ok (.getfield 25, 3) := by decide +kernel
theorem d_Jobs_add_34 : decode b_Jobs_add 34 = .ok (.iload 6, 2) := by decide +kernel
theorem d_Jobs_add_36 : decode b_Jobs_add 36 = .ok (.iload 4, 2) := by decide +kernel
theorem d_Jobs_add_38 : decode b_Jobs_add 38 = .ok (.iastore, 1) := by decide +kernel
theorem d_Jobs_add_39 : decode b_Jobs_add 39 = .ok (.aload_n 0, 1) := by decide +kernel
theorem d_Jobs_add_40 : decode b_Jobs_add 40 = .ok (.getfield 28, 3) := by decide +kernel
theorem d_Jobs_add_43 : decode b_Jobs_add 43 = .ok (.iload 6, 2) := by decide +kernel
theorem d_Jobs_add_45 : decode b_Jobs_add 45 = .ok (.iload 5, 2) := by decide +kernel
theorem d_Jobs_add_47 : decode b_Jobs_add 47 = .ok (.iastore, 1) := by decide +kernel
theorem d_Jobs_add_48 : decode b_Jobs_add 48 = .ok (.aload_n 0, 1) := by decide +kernel
theorem d_Jobs_add_49 : decode b_Jobs_add 49 = .ok (.dup, 1) := by decide +kernel
theorem d_Jobs_add_50 : decode b_Jobs_add 50 = .ok (.getfield 9, 3) := by decide +kernel
theorem d_Jobs_add_53 : decode b_Jobs_add 53 = .ok (.iconst 1, 1) := by decide +kernel
theorem d_Jobs_add_54 : decode b_Jobs_add 54 = .ok (.iadd, 1) := by decide +kernel
theorem d_Jobs_add_55 : decode b_Jobs_add 55 = .ok (.putfield 9, 3) := by decide +kernel
theorem d_Jobs_add_58 : decode b_Jobs_add 58 = .ok (.iload 6, 2) := by decide +kernel
theorem d_Jobs_add_60 : decode b_Jobs_add 60 = .ok (.ireturn, 1) := by decide +kernel
def s_Jobs_add_0 (σ : MI) (τ : ML) (a1 : Int32) (a2 : Int32) (a3 : Int32) (a4 : Int32) (a5 : Int32) (R : Int32 → MI → ML → Prop) : Prop :=
  ∀ y4 : Int32, y4 = σ 8 0 → (vp_in y4 7 ∧ (∀ s13 : MI, s13 = st2 σ 9 (Int32.toNatClampNeg y4) a1 → (vp_in y4 7 ∧ (∀ s21 : MI, s21 = st2 s13 10 (Int32.toNatClampNeg y4) a2 → (vp_in y4 7 ∧ (∀ s29 : MI, s29 = st2 s21 11 (Int32.toNatClampNeg y4) a3 → (vp_in y4 7 ∧ (∀ s38 : MI, s38 = st2 s29 12 (Int32.toNatClampNeg y4) a4 → (vp_in y4 7 ∧ (∀ s47 : MI, s47 = st2 s38 13 (Int32.toNatClampNeg y4) a5 → (∀ s55 : MI, s55 = st2 s47 8 0 ((s47 8 0) + 1) → (R y4 s55 τ))))))))))))
set_option maxHeartbeats 4000000 in
set_option maxRecDepth 100000 in
theorem k_Jobs_add (l : Launch) (D : va_G) (ad : Nat → Nat) (ci cl : ClassId)
    (pre : MI → ML → Int32 → Int32 → Int32 → Int32 → Int32 → Prop) (post : MI → ML → Int32 → Int32 → Int32 → Int32 → Int32 → Int32 → MI → ML → Prop)
    (v0 : ∀ (σ0 : MI) (τ0 : ML) (a1 : Int32) (a2 : Int32) (a3 : Int32) (a4 : Int32) (a5 : Int32), pre σ0 τ0 a1 a2 a3 a4 a5 → s_Jobs_add_0 σ0 τ0 a1 a2 a3 a4 a5 (post σ0 τ0 a1 a2 a3 a4 a5)) :
    ∀ (sz : Nat) (σ0 : MI) (τ0 : ML) (a1 : Int32) (a2 : Int32) (a3 : Int32) (a4 : Int32) (a5 : Int32), pre σ0 τ0 a1 a2 a3 a4 a5 → gMi l D (xw ad ci cl) (xt ci cl) (xa ad) y_Jobs_add w_Jobs_add rm_Jobs_add [.ref (ad 8), .int a1, .int a2, .int a3, .int a4, .int a5] sz σ0 τ0 (post σ0 τ0 a1 a2 a3 a4 a5) := by
  intro sz σ0 τ0 a1 a2 a3 a4 a5 hpre
  refine gk_ofWi (cc := b_Jobs_add) (maxL := 7) (ret := (some .int)) (by decide) rfl xa_ok (Nat.le_of_ble_eq_true rfl) ?_
  intro p e s m below meth c ls hx hb hr hlocks hml hown hts hK hP hD hS hl
  have hl : lv_has ls 7 [(0, .ref (ad 8)), (1, .int a1), (2, .int a2), (3, .int a3), (4, .int a4), (5, .int a5)] := hl
  have hown : s.vm.findClass R_Jobs = some m.cls := hown
  have hv := v0 σ0 τ0 a1 a2 a3 a4 a5 hpre
  unfold s_Jobs_add_0 at hv
  refine lv_aload_n hx hb d_Jobs_add_0 rfl (lv_at hl 0 rfl) ?_
  refine va_get (D := D) (ci := 0) (v := .int (σ0 8 0)) (C := R_Jobs) (T := F_Jobs) (N := 7) hx hb hts iw_Jobs hown hK hP 8 rfl rfl 0 (by decide) (hts _ t_w39) (fun _ h9 => h9) rfl d_Jobs_add_1 ?_
  refine lv_topi (fun y4 ey4 => ?_)
  replace hv := hv y4 ey4
  refine lv_istore (lv' := [(6, .int y4), (0, .ref (ad 8)), (1, .int a1), (2, .int a2), (3, .int a3), (4, .int a4), (5, .int a5)]) hx hb d_Jobs_add_4 hl (by decide) rfl (fun ls hl => ?_)
  refine lv_aload_n hx hb d_Jobs_add_6 rfl (lv_at hl 1 rfl) ?_
  refine va_get (D := D) (ci := 0) (v := .ref (ad 9)) (C := R_Jobs) (T := F_Jobs) (N := 7) hx hb hts iw_Jobs hown hK hP 8 rfl rfl 1 (by decide) (hts _ t_w40) (fun _ h9 => h9) rfl d_Jobs_add_7 ?_
  refine lv_iload hx hb d_Jobs_add_10 (lv_at hl 0 rfl) ?_
  refine lv_iload_n hx hb d_Jobs_add_12 rfl (lv_at hl 2 rfl) ?_
  obtain ⟨hi, hv⟩ := hv
  refine va_iast hx hb hK hP hD hS 9 0 rfl rfl hi d_Jobs_add_13 (fun H locs hP hD hS => ?_)
  rw [xa_9] at hP hD
  obtain ⟨s13, es13⟩ : ∃ z : MI, z = st2 σ0 9 (Int32.toNatClampNeg y4) a1 := ⟨_, rfl⟩
  rw [← es13] at hP hD
  replace hv := hv s13 es13
  refine lv_aload_n hx hb d_Jobs_add_14 rfl (lv_at hl 1 rfl) ?_
  refine va_get (D := D) (ci := 0) (v := .ref (ad 10)) (C := R_Jobs) (T := F_Jobs) (N := 7) hx hb hts iw_Jobs hown hK hP 8 rfl rfl 2 (by decide) (hts _ t_w41) (fun _ h9 => h9) rfl d_Jobs_add_15 ?_
  refine lv_iload hx hb d_Jobs_add_18 (lv_at hl 0 rfl) ?_
  refine lv_iload_n hx hb d_Jobs_add_20 rfl (lv_at hl 3 rfl) ?_
  obtain ⟨hi, hv⟩ := hv
  refine va_iast hx hb hK hP hD hS 10 0 rfl rfl hi d_Jobs_add_21 (fun H locs hP hD hS => ?_)
  rw [xa_10] at hP hD
  obtain ⟨s21, es21⟩ : ∃ z : MI, z = st2 s13 10 (Int32.toNatClampNeg y4) a2 := ⟨_, rfl⟩
  rw [← es21] at hP hD
  replace hv := hv s21 es21
  refine lv_aload_n hx hb d_Jobs_add_22 rfl (lv_at hl 1 rfl) ?_
  refine va_get (D := D) (ci := 0) (v := .ref (ad 11)) (C := R_Jobs) (T := F_Jobs) (N := 7) hx hb hts iw_Jobs hown hK hP 8 rfl rfl 3 (by decide) (hts _ t_w42) (fun _ h9 => h9) rfl d_Jobs_add_23 ?_
  refine lv_iload hx hb d_Jobs_add_26 (lv_at hl 0 rfl) ?_
  refine lv_iload_n hx hb d_Jobs_add_28 rfl (lv_at hl 4 rfl) ?_
  obtain ⟨hi, hv⟩ := hv
  refine va_iast hx hb hK hP hD hS 11 0 rfl rfl hi d_Jobs_add_29 (fun H locs hP hD hS => ?_)
  rw [xa_11] at hP hD
  obtain ⟨s29, es29⟩ : ∃ z : MI, z = st2 s21 11 (Int32.toNatClampNeg y4) a3 := ⟨_, rfl⟩
  rw [← es29] at hP hD
  replace hv := hv s29 es29
  refine lv_aload_n hx hb d_Jobs_add_30 rfl (lv_at hl 1 rfl) ?_
  refine va_get (D := D) (ci := 0) (v := .ref (ad 12)) (C := R_Jobs) (T := F_Jobs) (N := 7) hx hb hts iw_Jobs hown hK hP 8 rfl rfl 4 (by decide) (hts _ t_w43) (fun _ h9 => h9) rfl d_Jobs_add_31 ?_
  refine lv_iload hx hb d_Jobs_add_34 (lv_at hl 0 rfl) ?_
  refine lv_iload hx hb d_Jobs_add_36 (lv_at hl 5 rfl) ?_
  obtain ⟨hi, hv⟩ := hv
  refine va_iast hx hb hK hP hD hS 12 0 rfl rfl hi d_Jobs_add_38 (fun H locs hP hD hS => ?_)
  rw [xa_12] at hP hD
  obtain ⟨s38, es38⟩ : ∃ z : MI, z = st2 s29 12 (Int32.toNatClampNeg y4) a4 := ⟨_, rfl⟩
  rw [← es38] at hP hD
  replace hv := hv s38 es38
  refine lv_aload_n hx hb d_Jobs_add_39 rfl (lv_at hl 1 rfl) ?_
  refine va_get (D := D) (ci := 0) (v := .ref (ad 13)) (C := R_Jobs) (T := F_Jobs) (N := 7) hx hb hts iw_Jobs hown hK hP 8 rfl rfl 5 (by decide) (hts _ t_w44) (fun _ h9 => h9) rfl d_Jobs_add_40 ?_
  refine lv_iload hx hb d_Jobs_add_43 (lv_at hl 0 rfl) ?_
  refine lv_iload hx hb d_Jobs_add_45 (lv_at hl 6 rfl) ?_
  obtain ⟨hi, hv⟩ := hv
  refine va_iast hx hb hK hP hD hS 13 0 rfl rfl hi d_Jobs_add_47 (fun H locs hP hD hS => ?_)
  rw [xa_13] at hP hD
  obtain ⟨s47, es47⟩ : ∃ z : MI, z = st2 s38 13 (Int32.toNatClampNeg y4) a5 := ⟨_, rfl⟩
  rw [← es47] at hP hD
  replace hv := hv s47 es47
  refine lv_aload_n hx hb d_Jobs_add_48 rfl (lv_at hl 1 rfl) ?_
  refine lv_dup hx hb d_Jobs_add_49 rfl ?_
  refine va_get (D := D) (ci := 0) (v := .int (s47 8 0)) (C := R_Jobs) (T := F_Jobs) (N := 7) hx hb hts iw_Jobs hown hK hP 8 rfl rfl 0 (by decide) (hts _ t_w39) (fun _ h9 => h9) rfl d_Jobs_add_50 ?_
  refine lv_iconst (v := 1) hx hb d_Jobs_add_53 (by decide) ?_
  refine lv_iadd hx hb d_Jobs_add_54 ?_
  refine va_put (D := D) (ci := 0) (v := .int ((s47 8 0) + 1)) (ty := .int) (fs := [.int (s47 8 0), .ref (ad 9), .ref (ad 10), .ref (ad 11), .ref (ad 12), .ref (ad 13), .ref (ad 14)]) (C := R_Jobs) (T := F_Jobs) (N := 7) hx hb hts iw_Jobs ty_Jobs ty_Jobs_ok nn_Jobs hown hK hP hD hS 8 rfl rfl 0 (by decide) (hts _ t_w39) (fun _ h9 => h9) rfl (by decide +kernel) rfl rfl (Nat.le_of_ble_eq_true rfl) d_Jobs_add_55 (fun H locs hP hD hS => ?_)
  rw [xf_8_0] at hP hD
  obtain ⟨s55, es55⟩ : ∃ z : MI, z = st2 s47 8 0 ((s47 8 0) + 1) := ⟨_, rfl⟩
  rw [← es55] at hP hD
  replace hv := hv s55 es55
  refine lv_iload hx hb d_Jobs_add_58 (lv_at hl 0 rfl) ?_
  exact gk_iret hx hb hr hlocks hK hP hD hS hv d_Jobs_add_60
theorem d_Ways_tell_0 : decode b_Ways_tell 0 = .ok (.aload_n 0, 1) := by decide +kernel
theorem d_Ways_tell_1 : decode b_Ways_tell 1 = .ok (.getfield 15, 3) := by decide +kernel
theorem d_Ways_tell_4 : decode b_Ways_tell 4 = .ok (.iload_n 1, 1) := by decide +kernel
theorem d_Ways_tell_5 : decode b_Ways_tell 5 = .ok (.iconst 5, 1) := by decide +kernel
theorem d_Ways_tell_6 : decode b_Ways_tell 6 = .ok (.imul, 1) := by decide +kernel
theorem d_Ways_tell_7 : decode b_Ways_tell 7 = .ok (.iload_n 2, 1) := by decide +kernel
theorem d_Ways_tell_8 : decode b_Ways_tell 8 = .ok (.iadd, 1) := by decide +kernel
theorem d_Ways_tell_9 : decode b_Ways_tell 9 = .ok (.iload_n 3, 1) := by decide +kernel
theorem d_Ways_tell_10 : decode b_Ways_tell 10 = .ok (.iastore, 1) := by decide +kernel
theorem d_Ways_tell_11 : decode b_Ways_tell 11 = .ok (.aload_n 0, 1) := by decide +kernel
theorem d_Ways_tell_12 : decode b_Ways_tell 12 = .ok (.getfield 15, 3) := by decide +kernel
theorem d_Ways_tell_15 : decode b_Ways_tell 15 = .ok (.iload_n 2, 1) := by decide +kernel
theorem d_Ways_tell_16 : decode b_Ways_tell 16 = .ok (.iconst 5, 1) := by decide +kernel
theorem d_Ways_tell_17 : decode b_Ways_tell 17 = .ok (.imul, 1) := by decide +kernel
theorem d_Ways_tell_18 : decode b_Ways_tell 18 = .ok (.iload_n 1, 1) := by decide +kernel
theorem d_Ways_tell_19 : decode b_Ways_tell 19 = .ok (.iadd, 1) := by decide +kernel
theorem d_Ways_tell_20 : decode b_Ways_tell 20 = .ok (.iload_n 3, 1) := by decide +kernel
theorem d_Ways_tell_21 : decode b_Ways_tell 21 = .ok (.iastore, 1) := by decide +kernel
theorem d_Ways_tell_22 : decode b_Ways_tell 22 = .ok (.return_, 1) := by decide +kernel
def s_Ways_tell_0 (σ : MI) (τ : ML) (a1 : Int32) (a2 : Int32) (a3 : Int32) (R : MI → ML → Prop) : Prop :=
  vp_in ((a1 * 5) + a2) 25 ∧ (∀ s10 : MI, s10 = st2 σ 18 (Int32.toNatClampNeg ((a1 * 5) + a2)) a3 → (vp_in ((a2 * 5) + a1) 25 ∧ (∀ s21 : MI, s21 = st2 s10 18 (Int32.toNatClampNeg ((a2 * 5) + a1)) a3 → (R s21 τ))))
set_option maxHeartbeats 4000000 in
set_option maxRecDepth 100000 in
theorem k_Ways_tell (l : Launch) (D : va_G) (ad : Nat → Nat) (ci cl : ClassId)
    (pre : MI → ML → Int32 → Int32 → Int32 → Prop) (post : MI → ML → Int32 → Int32 → Int32 → MI → ML → Prop)
    (v0 : ∀ (σ0 : MI) (τ0 : ML) (a1 : Int32) (a2 : Int32) (a3 : Int32), pre σ0 τ0 a1 a2 a3 → s_Ways_tell_0 σ0 τ0 a1 a2 a3 (post σ0 τ0 a1 a2 a3)) :
    ∀ (sz : Nat) (σ0 : MI) (τ0 : ML) (a1 : Int32) (a2 : Int32) (a3 : Int32), pre σ0 τ0 a1 a2 a3 → gMv l D (xw ad ci cl) (xt ci cl) (xa ad) y_Ways_tell w_Ways_tell rm_Ways_tell [.ref (ad 17), .int a1, .int a2, .int a3] sz σ0 τ0 (post σ0 τ0 a1 a2 a3) := by
  intro sz σ0 τ0 a1 a2 a3 hpre
  refine gk_ofWv (cc := b_Ways_tell) (maxL := 4) (ret := none) (by decide) rfl xa_ok (Nat.le_of_ble_eq_true rfl) ?_
  intro p e s m below meth c ls hx hb hr hlocks hml hown hts hK hP hD hS hl
  have hl : lv_has ls 4 [(0, .ref (ad 17)), (1, .int a1), (2, .int a2), (3, .int a3)] := hl
  have hown : s.vm.findClass R_Ways = some m.cls := hown
  have hv := v0 σ0 τ0 a1 a2 a3 hpre
  unfold s_Ways_tell_0 at hv
  refine lv_aload_n hx hb d_Ways_tell_0 rfl (lv_at hl 0 rfl) ?_
  refine va_get (D := D) (ci := 5) (v := .ref (ad 18)) (C := R_Ways) (T := F_Ways) (N := 2) hx hb hts iw_Ways hown hK hP 17 rfl rfl 1 (by decide) (hts _ t_w52) (fun _ h9 => h9) rfl d_Ways_tell_1 ?_
  refine lv_iload_n hx hb d_Ways_tell_4 rfl (lv_at hl 1 rfl) ?_
  refine lv_iconst (v := 5) hx hb d_Ways_tell_5 (by decide) ?_
  refine lv_imul hx hb d_Ways_tell_6 ?_
  refine lv_iload_n hx hb d_Ways_tell_7 rfl (lv_at hl 2 rfl) ?_
  refine lv_iadd hx hb d_Ways_tell_8 ?_
  refine lv_iload_n hx hb d_Ways_tell_9 rfl (lv_at hl 3 rfl) ?_
  obtain ⟨hi, hv⟩ := hv
  refine va_iast hx hb hK hP hD hS 18 0 rfl rfl hi d_Ways_tell_10 (fun H locs hP hD hS => ?_)
  rw [xa_18] at hP hD
  obtain ⟨s10, es10⟩ : ∃ z : MI, z = st2 σ0 18 (Int32.toNatClampNeg ((a1 * 5) + a2)) a3 := ⟨_, rfl⟩
  rw [← es10] at hP hD
  replace hv := hv s10 es10
  refine lv_aload_n hx hb d_Ways_tell_11 rfl (lv_at hl 0 rfl) ?_
  refine va_get (D := D) (ci := 5) (v := .ref (ad 18)) (C := R_Ways) (T := F_Ways) (N := 2) hx hb hts iw_Ways hown hK hP 17 rfl rfl 1 (by decide) (hts _ t_w52) (fun _ h9 => h9) rfl d_Ways_tell_12 ?_
  refine lv_iload_n hx hb d_Ways_tell_15 rfl (lv_at hl 2 rfl) ?_
  refine lv_iconst (v := 5) hx hb d_Ways_tell_16 (by decide) ?_
  refine lv_imul hx hb d_Ways_tell_17 ?_
  refine lv_iload_n hx hb d_Ways_tell_18 rfl (lv_at hl 1 rfl) ?_
  refine lv_iadd hx hb d_Ways_tell_19 ?_
  refine lv_iload_n hx hb d_Ways_tell_20 rfl (lv_at hl 3 rfl) ?_
  obtain ⟨hi, hv⟩ := hv
  refine va_iast hx hb hK hP hD hS 18 0 rfl rfl hi d_Ways_tell_21 (fun H locs hP hD hS => ?_)
  rw [xa_18] at hP hD
  obtain ⟨s21, es21⟩ : ∃ z : MI, z = st2 s10 18 (Int32.toNatClampNeg ((a2 * 5) + a1)) a3 := ⟨_, rfl⟩
  rw [← es21] at hP hD
  replace hv := hv s21 es21
  exact gk_vret hx hb hr hlocks hK hP hD hS hv d_Ways_tell_22
theorem d_PT_travels_0 : decode b_PT_travels 0 = .ok (.iload_n 1, 1) := by decide +kernel
theorem d_PT_travels_1 : decode b_PT_travels 1 = .ok (.invokestatic 59, 3) := by decide +kernel
theorem d_PT_travels_4 : decode b_PT_travels 4 = .ok (.ifCond .eq 26, 3) := by decide +kernel
theorem d_PT_travels_7 : decode b_PT_travels 7 = .ok (.iload_n 2, 1) := by decide +kernel
theorem d_PT_travels_8 : decode b_PT_travels 8 = .ok (.invokestatic 59, 3) := by decide +kernel
theorem d_PT_travels_11 : decode b_PT_travels 11 = .ok (.ifCond .eq 19, 3) := by decide +kernel
theorem d_PT_travels_14 : decode b_PT_travels 14 = .ok (.iload_n 1, 1) := by decide +kernel
theorem d_PT_travels_15 : decode b_PT_travels 15 = .ok (.iload_n 2, 1) := by decide +kernel
theorem d_PT_travels_16 : decode b_PT_travels 16 = .ok (.if_icmp .eq 14, 3) := by decide +kernel
theorem d_PT_travels_19 : decode b_PT_travels 19 = .ok (.iload_n 3, 1) := by decide +kernel
theorem d_PT_travels_20 : decode b_PT_travels 20 = .ok (.iconst 0, 1) := by decide +kernel
theorem d_PT_travels_21 : decode b_PT_travels 21 = .ok (.sipush 300, 3) := by decide +kernel
theorem d_PT_travels_24 : decode b_PT_travels 24 = .ok (.invokestatic 86, 3) := by decide +kernel
theorem d_PT_travels_27 : decode b_PT_travels 27 = .ok (.ifCond .ne 5, 3) := by decide +kernel
theorem d_PT_travels_30 : decode b_PT_travels 30 = .ok (.iconst 0, 1) := by decide +kernel
theorem d_PT_travels_31 : decode b_PT_travels 31 = .ok (.ireturn, 1) := by decide +kernel
theorem d_PT_travels_32 : decode b_PT_travels 32 = .ok (.aload_n 0, 1) := by decide +kernel
theorem d_PT_travels_33 : decode b_PT_travels 33 = .ok (.getfield 47, 3) := by decide +kernel
theorem d_PT_travels_36 : decode b_PT_travels 36 = .ok (.iconst 0, 1) := by decide +kernel
theorem d_PT_travels_37 : decode b_PT_travels 37 = .ok (.putfield 78, 3) := by decide +kernel
theorem d_PT_travels_40 : decode b_PT_travels 40 = .ok (.aload_n 0, 1) := by decide +kernel
theorem d_PT_travels_41 : decode b_PT_travels 41 = .ok (.getfield 33, 3) := by decide +kernel
theorem d_PT_travels_44 : decode b_PT_travels 44 = .ok (.iload_n 1, 1) := by decide +kernel
theorem d_PT_travels_45 : decode b_PT_travels 45 = .ok (.iload_n 2, 1) := by decide +kernel
theorem d_PT_travels_46 : decode b_PT_travels 46 = .ok (.iload_n 3, 1) := by decide +kernel
theorem d_PT_travels_47 : decode b_PT_travels 47 = .ok (.invokevirtual 108, 3) := by decide +kernel
theorem d_PT_travels_50 : decode b_PT_travels 50 = .ok (.iconst 1, 1) := by decide +kernel
theorem d_PT_travels_51 : decode b_PT_travels 51 = .ok (.ireturn, 1) := by decide +kernel
def s_PT_travels_0 (P_PT_isPlace : MI → ML → Int32 → Prop) (Q_PT_isPlace : MI → ML → Int32 → Int32 → MI → ML → Prop) (P_PT_isWithin : MI → ML → Int32 → Int32 → Int32 → Prop) (Q_PT_isWithin : MI → ML → Int32 → Int32 → Int32 → Int32 → MI → ML → Prop) (P_Ways_tell : MI → ML → Int32 → Int32 → Int32 → Prop) (Q_Ways_tell : MI → ML → Int32 → Int32 → Int32 → MI → ML → Prop) (σ : MI) (τ : ML) (a1 : Int32) (a2 : Int32) (a3 : Int32) (R : Int32 → MI → ML → Prop) : Prop :=
  P_PT_isPlace σ τ a1 ∧ ∀ (r1 : Int32) (s1 : MI) (t1 : ML), Q_PT_isPlace σ τ a1 r1 s1 t1 → ((r1 = 0 →
  ((0 = (0 : Int32) ∨ 0 = (1 : Int32)) ∧ R 0 s1 t1)) ∧
  (¬ r1 = 0 →
  (P_PT_isPlace s1 t1 a2 ∧ ∀ (r8 : Int32) (s8 : MI) (t8 : ML), Q_PT_isPlace s1 t1 a2 r8 s8 t8 → ((r8 = 0 →
    ((0 = (0 : Int32) ∨ 0 = (1 : Int32)) ∧ R 0 s8 t8)) ∧
    (¬ r8 = 0 →
    ((a1 = a2 →
      ((0 = (0 : Int32) ∨ 0 = (1 : Int32)) ∧ R 0 s8 t8)) ∧
      (¬ a1 = a2 →
      (P_PT_isWithin s8 t8 a3 0 300 ∧ ∀ (r24 : Int32) (s24 : MI) (t24 : ML), Q_PT_isWithin s8 t8 a3 0 300 r24 s24 t24 → ((¬ r24 = 0 →
        (∀ s37 : MI, s37 = st2 s24 22 0 0 → (P_Ways_tell s37 t24 a1 a2 a3 ∧ ∀ (s47 : MI) (t47 : ML), Q_Ways_tell s37 t24 a1 a2 a3 s47 t47 → ((1 = (0 : Int32) ∨ 1 = (1 : Int32)) ∧ R 1 s47 t47)))) ∧
        (r24 = 0 →
        ((0 = (0 : Int32) ∨ 0 = (1 : Int32)) ∧ R 0 s24 t24)))))))))))
set_option maxHeartbeats 4000000 in
set_option maxRecDepth 100000 in
theorem k_PT_travels (l : Launch) (D : va_G) (ad : Nat → Nat) (ci cl : ClassId)
    (pre : MI → ML → Int32 → Int32 → Int32 → Prop) (post : MI → ML → Int32 → Int32 → Int32 → Int32 → MI → ML → Prop) (P_PT_isPlace : MI → ML → Int32 → Prop) (Q_PT_isPlace : MI → ML → Int32 → Int32 → MI → ML → Prop) (P_PT_isWithin : MI → ML → Int32 → Int32 → Int32 → Prop) (Q_PT_isWithin : MI → ML → Int32 → Int32 → Int32 → Int32 → MI → ML → Prop) (P_Ways_tell : MI → ML → Int32 → Int32 → Int32 → Prop) (Q_Ways_tell : MI → ML → Int32 → Int32 → Int32 → MI → ML → Prop)
    (h_PT_isPlace : ∀ (sz : Nat) (σ : MI) (τ : ML) (b0 : Int32), P_PT_isPlace σ τ b0 → gMi l D (xw ad ci cl) (xt ci cl) (xa ad) y_PT_isPlace w_PT_isPlace rm_PT_isPlace [.int b0] sz σ τ (Q_PT_isPlace σ τ b0))
    (h_PT_isWithin : ∀ (sz : Nat) (σ : MI) (τ : ML) (b0 : Int32) (b1 : Int32) (b2 : Int32), P_PT_isWithin σ τ b0 b1 b2 → gMi l D (xw ad ci cl) (xt ci cl) (xa ad) y_PT_isWithin w_PT_isWithin rm_PT_isWithin [.int b0, .int b1, .int b2] sz σ τ (Q_PT_isWithin σ τ b0 b1 b2))
    (h_Ways_tell : ∀ (sz : Nat) (σ : MI) (τ : ML) (b0 : Int32) (b1 : Int32) (b2 : Int32), P_Ways_tell σ τ b0 b1 b2 → gMv l D (xw ad ci cl) (xt ci cl) (xa ad) y_Ways_tell w_Ways_tell rm_Ways_tell [.ref (ad 17), .int b0, .int b1, .int b2] sz σ τ (Q_Ways_tell σ τ b0 b1 b2))
    (v0 : ∀ (σ0 : MI) (τ0 : ML) (a1 : Int32) (a2 : Int32) (a3 : Int32), pre σ0 τ0 a1 a2 a3 → s_PT_travels_0 P_PT_isPlace Q_PT_isPlace P_PT_isWithin Q_PT_isWithin P_Ways_tell Q_Ways_tell σ0 τ0 a1 a2 a3 (post σ0 τ0 a1 a2 a3)) :
    ∀ (sz : Nat) (σ0 : MI) (τ0 : ML) (a1 : Int32) (a2 : Int32) (a3 : Int32), pre σ0 τ0 a1 a2 a3 → gMi l D (xw ad ci cl) (xt ci cl) (xa ad) y_PT_travels w_PT_travels rm_PT_travels [.ref (ad 0), .int a1, .int a2, .int a3] sz σ0 τ0 (post σ0 τ0 a1 a2 a3) := by
  intro sz σ0 τ0 a1 a2 a3 hpre
  refine gk_ofWi (cc := b_PT_travels) (maxL := 4) (ret := (some .boolean)) (by decide) rfl xa_ok (Nat.le_of_ble_eq_true rfl) ?_
  intro p e s m below meth c ls hx hb hr hlocks hml hown hts hK hP hD hS hl
  have hl : lv_has ls 4 [(0, .ref (ad 0)), (1, .int a1), (2, .int a2), (3, .int a3)] := hl
  have hown : s.vm.findClass R_PT = some m.cls := hown
  have hv := v0 σ0 τ0 a1 a2 a3 hpre
  unfold s_PT_travels_0 at hv
  refine lv_iload_n hx hb d_PT_travels_0 rfl (lv_at hl 1 rfl) ?_
  obtain ⟨hg, hv⟩ := hv
  refine gk_callSi (As := [.int a1]) (rest := []) ⟨hx, hb, hml, hown, hts⟩ (h_PT_isPlace _ σ0 τ0 a1 hg) (gk_cwS 1 hts t_w20 rfl rfl rfl (hts _ t_w18) (hts _ t_w19) (hts _ t_w5) (by decide +kernel) ⟨Nat.le_of_ble_eq_true rfl, Nat.le_of_ble_eq_true rfl⟩) hK hP hD hS rfl hl.1 rfl (lv_room (Nat.le_of_ble_eq_true rfl)) d_PT_travels_1 ⟨Nat.zero_le _, Nat.zero_le _⟩ ?_
  intro r1 s1 t1 H locs hw hP hD hS
  replace hv := hv r1 s1 t1 hw
  refine lv_if_eq (tgt := 30) hx hb d_PT_travels_4 (by decide) (fun hc => ?_) (fun hc => ?_)
  · replace hv := hv.1 hc
    refine lv_iconst (v := 0) hx hb d_PT_travels_30 (by decide) ?_
    obtain ⟨hz, hv⟩ := hv
    exact gk_zret hx hb hr hlocks (gk_nz hz) hK hP hD hS hv d_PT_travels_31
  · replace hv := hv.2 hc
    refine lv_iload_n hx hb d_PT_travels_7 rfl (lv_at hl 2 rfl) ?_
    obtain ⟨hg, hv⟩ := hv
    refine gk_callSi (As := [.int a2]) (rest := []) ⟨hx, hb, hml, hown, hts⟩ (h_PT_isPlace _ s1 t1 a2 hg) (gk_cwS 1 hts t_w20 rfl rfl rfl (hts _ t_w18) (hts _ t_w19) (hts _ t_w5) (by decide +kernel) ⟨Nat.le_of_ble_eq_true rfl, Nat.le_of_ble_eq_true rfl⟩) hK hP hD hS rfl hl.1 rfl (lv_room (Nat.le_of_ble_eq_true rfl)) d_PT_travels_8 ⟨Nat.zero_le _, Nat.zero_le _⟩ ?_
    intro r8 s8 t8 H locs hw hP hD hS
    replace hv := hv r8 s8 t8 hw
    refine lv_if_eq (tgt := 30) hx hb d_PT_travels_11 (by decide) (fun hc => ?_) (fun hc => ?_)
    · replace hv := hv.1 hc
      refine lv_iconst (v := 0) hx hb d_PT_travels_30 (by decide) ?_
      obtain ⟨hz, hv⟩ := hv
      exact gk_zret hx hb hr hlocks (gk_nz hz) hK hP hD hS hv d_PT_travels_31
    · replace hv := hv.2 hc
      refine lv_iload_n hx hb d_PT_travels_14 rfl (lv_at hl 1 rfl) ?_
      refine lv_iload_n hx hb d_PT_travels_15 rfl (lv_at hl 2 rfl) ?_
      refine lv_icmp_eq (tgt := 30) hx hb d_PT_travels_16 (by decide) (fun hc => ?_) (fun hc => ?_)
      · replace hv := hv.1 hc
        refine lv_iconst (v := 0) hx hb d_PT_travels_30 (by decide) ?_
        obtain ⟨hz, hv⟩ := hv
        exact gk_zret hx hb hr hlocks (gk_nz hz) hK hP hD hS hv d_PT_travels_31
      · replace hv := hv.2 hc
        refine lv_iload_n hx hb d_PT_travels_19 rfl (lv_at hl 3 rfl) ?_
        refine lv_iconst (v := 0) hx hb d_PT_travels_20 (by decide) ?_
        refine lv_sipush (v := 300) hx hb d_PT_travels_21 (by decide) ?_
        obtain ⟨hg, hv⟩ := hv
        refine gk_callSi (As := [.int a3, .int 0, .int 300]) (rest := []) ⟨hx, hb, hml, hown, hts⟩ (h_PT_isWithin _ s8 t8 a3 0 300 hg) (gk_cwS 3 hts t_w6 rfl rfl rfl (hts _ t_w3) (hts _ t_w4) (hts _ t_w5) (by decide +kernel) ⟨Nat.le_of_ble_eq_true rfl, Nat.le_of_ble_eq_true rfl⟩) hK hP hD hS rfl hl.1 rfl (lv_room (Nat.le_of_ble_eq_true rfl)) d_PT_travels_24 ⟨Nat.zero_le _, Nat.zero_le _⟩ ?_
        intro r24 s24 t24 H locs hw hP hD hS
        replace hv := hv r24 s24 t24 hw
        refine lv_if_ne (tgt := 32) hx hb d_PT_travels_27 (by decide) (fun hc => ?_) (fun hc => ?_)
        · replace hv := hv.1 hc
          refine lv_aload_n hx hb d_PT_travels_32 rfl (lv_at hl 0 rfl) ?_
          refine va_get (D := D) (ci := 6) (v := .ref (ad 22)) (C := R_PT) (T := F_PT) (N := 6) hx hb hts iw_PT hown hK hP 0 rfl rfl 5 (by decide) (hts _ t_w23) (fun _ h9 => h9) rfl d_PT_travels_33 ?_
          refine lv_iconst (v := 0) hx hb d_PT_travels_36 (by decide) ?_
          refine va_put (D := D) (ci := 2) (v := .int 0) (ty := .boolean) (fs := [.int (s24 22 0), .int (s24 22 1), .int (s24 22 2), .int (s24 22 3), .ref (ad 23), .ref (ad 24), .ref (ad 25), .ref (ad 26), .ref (ad 27)]) (C := R_Plan) (T := F_Plan) (N := 9) hx hb hts iw_Plan ty_Plan ty_Plan_ok nn_Plan hown hK hP hD hS 22 rfl rfl 0 (by decide) (hts _ t_w24) (fun _ h9 => h9) rfl (by decide +kernel) rfl rfl (Nat.le_of_ble_eq_true rfl) d_PT_travels_37 (fun H locs hP hD hS => ?_)
          rw [xf_22_0] at hP hD
          obtain ⟨s37, es37⟩ : ∃ z : MI, z = st2 s24 22 0 0 := ⟨_, rfl⟩
          rw [← es37] at hP hD
          replace hv := hv s37 es37
          refine lv_aload_n hx hb d_PT_travels_40 rfl (lv_at hl 0 rfl) ?_
          refine va_get (D := D) (ci := 6) (v := .ref (ad 17)) (C := R_PT) (T := F_PT) (N := 6) hx hb hts iw_PT hown hK hP 0 rfl rfl 3 (by decide) (hts _ t_w53) (fun _ h9 => h9) rfl d_PT_travels_41 ?_
          refine lv_iload_n hx hb d_PT_travels_44 rfl (lv_at hl 1 rfl) ?_
          refine lv_iload_n hx hb d_PT_travels_45 rfl (lv_at hl 2 rfl) ?_
          refine lv_iload_n hx hb d_PT_travels_46 rfl (lv_at hl 3 rfl) ?_
          obtain ⟨hg, hv⟩ := hv
          refine gk_callVv (As := [.int a1, .int a2, .int a3]) (rest := []) (b := ad 17) ⟨hx, hb, hml, hown, hts⟩ (h_Ways_tell _ s37 t24 a1 a2 a3 hg) (gk_cwV 3 hts t_w58 rfl rfl rfl (hts _ t_w54) (hts _ t_w55) (hts _ t_w56) (hts _ t_w57) (by decide +kernel) ⟨Nat.le_of_ble_eq_true rfl, Nat.le_of_ble_eq_true rfl⟩) hK hP hD hS (va_recv hK hP (ci := 5) (q0 := 17) rfl rfl) rfl hl.1 rfl (lv_room (Nat.le_of_ble_eq_true rfl)) d_PT_travels_47 ⟨Nat.zero_le _, Nat.zero_le _⟩ ?_
          intro s47 t47 H locs hw hP hD hS
          replace hv := hv s47 t47 hw
          refine lv_iconst (v := 1) hx hb d_PT_travels_50 (by decide) ?_
          obtain ⟨hz, hv⟩ := hv
          exact gk_zret hx hb hr hlocks (gk_nz hz) hK hP hD hS hv d_PT_travels_51
        · replace hv := hv.2 hc
          refine lv_iconst (v := 0) hx hb d_PT_travels_30 (by decide) ?_
          obtain ⟨hz, hv⟩ := hv
          exact gk_zret hx hb hr hlocks (gk_nz hz) hK hP hD hS hv d_PT_travels_31
theorem d_PT_rest_0 : decode b_PT_rest 0 = .ok (.iload_n 1, 1) := by decide +kernel
theorem d_PT_rest_1 : decode b_PT_rest 1 = .ok (.iconst 0, 1) := by decide +kernel
theorem d_PT_rest_2 : decode b_PT_rest 2 = .ok (.sipush 300, 3) := by decide +kernel
theorem d_PT_rest_5 : decode b_PT_rest 5 = .ok (.invokestatic 86, 3) := by decide +kernel
theorem d_PT_rest_8 : decode b_PT_rest 8 = .ok (.ifCond .ne 5, 3) := by decide +kernel
theorem d_PT_rest_11 : decode b_PT_rest 11 = .ok (.iconst 0, 1) := by decide +kernel
theorem d_PT_rest_12 : decode b_PT_rest 12 = .ok (.ireturn, 1) := by decide +kernel
theorem d_PT_rest_13 : decode b_PT_rest 13 = .ok (.aload_n 0, 1) := by decide +kernel
theorem d_PT_rest_14 : decode b_PT_rest 14 = .ok (.getfield 47, 3) := by decide +kernel
theorem d_PT_rest_17 : decode b_PT_rest 17 = .ok (.iconst 0, 1) := by decide +kernel
theorem d_PT_rest_18 : decode b_PT_rest 18 = .ok (.putfield 78, 3) := by decide +kernel
theorem d_PT_rest_21 : decode b_PT_rest 21 = .ok (.aload_n 0, 1) := by decide +kernel
theorem d_PT_rest_22 : decode b_PT_rest 22 = .ok (.getfield 33, 3) := by decide +kernel
theorem d_PT_rest_25 : decode b_PT_rest 25 = .ok (.iload_n 1, 1) := by decide +kernel
theorem d_PT_rest_26 : decode b_PT_rest 26 = .ok (.putfield 112, 3) := by decide +kernel
theorem d_PT_rest_29 : decode b_PT_rest 29 = .ok (.iconst 1, 1) := by decide +kernel
theorem d_PT_rest_30 : decode b_PT_rest 30 = .ok (.ireturn, 1) := by decide +kernel
def s_PT_rest_0 (P_PT_isWithin : MI → ML → Int32 → Int32 → Int32 → Prop) (Q_PT_isWithin : MI → ML → Int32 → Int32 → Int32 → Int32 → MI → ML → Prop) (σ : MI) (τ : ML) (a1 : Int32) (R : Int32 → MI → ML → Prop) : Prop :=
  P_PT_isWithin σ τ a1 0 300 ∧ ∀ (r5 : Int32) (s5 : MI) (t5 : ML), Q_PT_isWithin σ τ a1 0 300 r5 s5 t5 → ((¬ r5 = 0 →
  (∀ s18 : MI, s18 = st2 s5 22 0 0 → (∀ s26 : MI, s26 = st2 s18 17 0 a1 → ((1 = (0 : Int32) ∨ 1 = (1 : Int32)) ∧ R 1 s26 t5)))) ∧
  (r5 = 0 →
  ((0 = (0 : Int32) ∨ 0 = (1 : Int32)) ∧ R 0 s5 t5)))
set_option maxHeartbeats 4000000 in
set_option maxRecDepth 100000 in
theorem k_PT_rest (l : Launch) (D : va_G) (ad : Nat → Nat) (ci cl : ClassId)
    (pre : MI → ML → Int32 → Prop) (post : MI → ML → Int32 → Int32 → MI → ML → Prop) (P_PT_isWithin : MI → ML → Int32 → Int32 → Int32 → Prop) (Q_PT_isWithin : MI → ML → Int32 → Int32 → Int32 → Int32 → MI → ML → Prop)
    (h_PT_isWithin : ∀ (sz : Nat) (σ : MI) (τ : ML) (b0 : Int32) (b1 : Int32) (b2 : Int32), P_PT_isWithin σ τ b0 b1 b2 → gMi l D (xw ad ci cl) (xt ci cl) (xa ad) y_PT_isWithin w_PT_isWithin rm_PT_isWithin [.int b0, .int b1, .int b2] sz σ τ (Q_PT_isWithin σ τ b0 b1 b2))
    (v0 : ∀ (σ0 : MI) (τ0 : ML) (a1 : Int32), pre σ0 τ0 a1 → s_PT_rest_0 P_PT_isWithin Q_PT_isWithin σ0 τ0 a1 (post σ0 τ0 a1)) :
    ∀ (sz : Nat) (σ0 : MI) (τ0 : ML) (a1 : Int32), pre σ0 τ0 a1 → gMi l D (xw ad ci cl) (xt ci cl) (xa ad) y_PT_rest w_PT_rest rm_PT_rest [.ref (ad 0), .int a1] sz σ0 τ0 (post σ0 τ0 a1) := by
  intro sz σ0 τ0 a1 hpre
  refine gk_ofWi (cc := b_PT_rest) (maxL := 2) (ret := (some .boolean)) (by decide) rfl xa_ok (Nat.le_of_ble_eq_true rfl) ?_
  intro p e s m below meth c ls hx hb hr hlocks hml hown hts hK hP hD hS hl
  have hl : lv_has ls 2 [(0, .ref (ad 0)), (1, .int a1)] := hl
  have hown : s.vm.findClass R_PT = some m.cls := hown
  have hv := v0 σ0 τ0 a1 hpre
  unfold s_PT_rest_0 at hv
  refine lv_iload_n hx hb d_PT_rest_0 rfl (lv_at hl 1 rfl) ?_
  refine lv_iconst (v := 0) hx hb d_PT_rest_1 (by decide) ?_
  refine lv_sipush (v := 300) hx hb d_PT_rest_2 (by decide) ?_
  obtain ⟨hg, hv⟩ := hv
  refine gk_callSi (As := [.int a1, .int 0, .int 300]) (rest := []) ⟨hx, hb, hml, hown, hts⟩ (h_PT_isWithin _ σ0 τ0 a1 0 300 hg) (gk_cwS 3 hts t_w6 rfl rfl rfl (hts _ t_w3) (hts _ t_w4) (hts _ t_w5) (by decide +kernel) ⟨Nat.le_of_ble_eq_true rfl, Nat.le_of_ble_eq_true rfl⟩) hK hP hD hS rfl hl.1 rfl (lv_room (Nat.le_of_ble_eq_true rfl)) d_PT_rest_5 ⟨Nat.zero_le _, Nat.zero_le _⟩ ?_
  intro r5 s5 t5 H locs hw hP hD hS
  replace hv := hv r5 s5 t5 hw
  refine lv_if_ne (tgt := 13) hx hb d_PT_rest_8 (by decide) (fun hc => ?_) (fun hc => ?_)
  · replace hv := hv.1 hc
    refine lv_aload_n hx hb d_PT_rest_13 rfl (lv_at hl 0 rfl) ?_
    refine va_get (D := D) (ci := 6) (v := .ref (ad 22)) (C := R_PT) (T := F_PT) (N := 6) hx hb hts iw_PT hown hK hP 0 rfl rfl 5 (by decide) (hts _ t_w23) (fun _ h9 => h9) rfl d_PT_rest_14 ?_
    refine lv_iconst (v := 0) hx hb d_PT_rest_17 (by decide) ?_
    refine va_put (D := D) (ci := 2) (v := .int 0) (ty := .boolean) (fs := [.int (s5 22 0), .int (s5 22 1), .int (s5 22 2), .int (s5 22 3), .ref (ad 23), .ref (ad 24), .ref (ad 25), .ref (ad 26), .ref (ad 27)]) (C := R_Plan) (T := F_Plan) (N := 9) hx hb hts iw_Plan ty_Plan ty_Plan_ok nn_Plan hown hK hP hD hS 22 rfl rfl 0 (by decide) (hts _ t_w24) (fun _ h9 => h9) rfl (by decide +kernel) rfl rfl (Nat.le_of_ble_eq_true rfl) d_PT_rest_18 (fun H locs hP hD hS => ?_)
    rw [xf_22_0] at hP hD
    obtain ⟨s18, es18⟩ : ∃ z : MI, z = st2 s5 22 0 0 := ⟨_, rfl⟩
    rw [← es18] at hP hD
    replace hv := hv s18 es18
    refine lv_aload_n hx hb d_PT_rest_21 rfl (lv_at hl 0 rfl) ?_
    refine va_get (D := D) (ci := 6) (v := .ref (ad 17)) (C := R_PT) (T := F_PT) (N := 6) hx hb hts iw_PT hown hK hP 0 rfl rfl 3 (by decide) (hts _ t_w53) (fun _ h9 => h9) rfl d_PT_rest_22 ?_
    refine lv_iload_n hx hb d_PT_rest_25 rfl (lv_at hl 1 rfl) ?_
    refine va_put (D := D) (ci := 5) (v := .int a1) (ty := .int) (fs := [.int (s18 17 0), .ref (ad 18)]) (C := R_Ways) (T := F_Ways) (N := 2) hx hb hts iw_Ways ty_Ways ty_Ways_ok nn_Ways hown hK hP hD hS 17 rfl rfl 0 (by decide) (hts _ t_w59) (fun _ h9 => h9) rfl (by decide +kernel) rfl rfl (Nat.le_of_ble_eq_true rfl) d_PT_rest_26 (fun H locs hP hD hS => ?_)
    rw [xf_17_0] at hP hD
    obtain ⟨s26, es26⟩ : ∃ z : MI, z = st2 s18 17 0 a1 := ⟨_, rfl⟩
    rw [← es26] at hP hD
    replace hv := hv s26 es26
    refine lv_iconst (v := 1) hx hb d_PT_rest_29 (by decide) ?_
    obtain ⟨hz, hv⟩ := hv
    exact gk_zret hx hb hr hlocks (gk_nz hz) hK hP hD hS hv d_PT_rest_30
  · replace hv := hv.2 hc
    refine lv_iconst (v := 0) hx hb d_PT_rest_11 (by decide) ?_
    obtain ⟨hz, hv⟩ := hv
    exact gk_zret hx hb hr hlocks (gk_nz hz) hK hP hD hS hv d_PT_rest_12
theorem d_PT_isPerson_0 : decode b_PT_isPerson 0 = .ok (.iload_n 1, 1) := by decide +kernel
theorem d_PT_isPerson_1 : decode b_PT_isPerson 1 = .ok (.iconst 0, 1) := by decide +kernel
theorem d_PT_isPerson_2 : decode b_PT_isPerson 2 = .ok (.aload_n 0, 1) := by decide +kernel
theorem d_PT_isPerson_3 : decode b_PT_isPerson 3 = .ok (.getfield 10, 3) := by decide +kernel
theorem d_PT_isPerson_6 : decode b_PT_isPerson 6 = .ok (.getfield 69, 3) := by decide +kernel
theorem d_PT_isPerson_9 : decode b_PT_isPerson 9 = .ok (.iconst 1, 1) := by decide +kernel
theorem d_PT_isPerson_10 : decode b_PT_isPerson 10 = .ok (.isub, 1) := by decide +kernel
theorem d_PT_isPerson_11 : decode b_PT_isPerson 11 = .ok (.invokestatic 86, 3) := by decide +kernel
theorem d_PT_isPerson_14 : decode b_PT_isPerson 14 = .ok (.ireturn, 1) := by decide +kernel
def s_PT_isPerson_0 (P_PT_isWithin : MI → ML → Int32 → Int32 → Int32 → Prop) (Q_PT_isWithin : MI → ML → Int32 → Int32 → Int32 → Int32 → MI → ML → Prop) (σ : MI) (τ : ML) (a1 : Int32) (R : Int32 → MI → ML → Prop) : Prop :=
  P_PT_isWithin σ τ a1 0 ((σ 1 0) - 1) ∧ ∀ (r11 : Int32) (s11 : MI) (t11 : ML), Q_PT_isWithin σ τ a1 0 ((σ 1 0) - 1) r11 s11 t11 → ((r11 = (0 : Int32) ∨ r11 = (1 : Int32)) ∧ R r11 s11 t11)
set_option maxHeartbeats 4000000 in
set_option maxRecDepth 100000 in
theorem k_PT_isPerson (l : Launch) (D : va_G) (ad : Nat → Nat) (ci cl : ClassId)
    (pre : MI → ML → Int32 → Prop) (post : MI → ML → Int32 → Int32 → MI → ML → Prop) (P_PT_isWithin : MI → ML → Int32 → Int32 → Int32 → Prop) (Q_PT_isWithin : MI → ML → Int32 → Int32 → Int32 → Int32 → MI → ML → Prop)
    (h_PT_isWithin : ∀ (sz : Nat) (σ : MI) (τ : ML) (b0 : Int32) (b1 : Int32) (b2 : Int32), P_PT_isWithin σ τ b0 b1 b2 → gMi l D (xw ad ci cl) (xt ci cl) (xa ad) y_PT_isWithin w_PT_isWithin rm_PT_isWithin [.int b0, .int b1, .int b2] sz σ τ (Q_PT_isWithin σ τ b0 b1 b2))
    (v0 : ∀ (σ0 : MI) (τ0 : ML) (a1 : Int32), pre σ0 τ0 a1 → s_PT_isPerson_0 P_PT_isWithin Q_PT_isWithin σ0 τ0 a1 (post σ0 τ0 a1)) :
    ∀ (sz : Nat) (σ0 : MI) (τ0 : ML) (a1 : Int32), pre σ0 τ0 a1 → gMi l D (xw ad ci cl) (xt ci cl) (xa ad) y_PT_isPerson w_PT_isPerson rm_PT_isPerson [.ref (ad 0), .int a1] sz σ0 τ0 (post σ0 τ0 a1) := by
  intro sz σ0 τ0 a1 hpre
  refine gk_ofWi (cc := b_PT_isPerson) (maxL := 2) (ret := (some .boolean)) (by decide) rfl xa_ok (Nat.le_of_ble_eq_true rfl) ?_
  intro p e s m below meth c ls hx hb hr hlocks hml hown hts hK hP hD hS hl
  have hl : lv_has ls 2 [(0, .ref (ad 0)), (1, .int a1)] := hl
  have hown : s.vm.findClass R_PT = some m.cls := hown
  have hv := v0 σ0 τ0 a1 hpre
  unfold s_PT_isPerson_0 at hv
  refine lv_iload_n hx hb d_PT_isPerson_0 rfl (lv_at hl 1 rfl) ?_
  refine lv_iconst (v := 0) hx hb d_PT_isPerson_1 (by decide) ?_
  refine lv_aload_n hx hb d_PT_isPerson_2 rfl (lv_at hl 0 rfl) ?_
  refine va_get (D := D) (ci := 6) (v := .ref (ad 1)) (C := R_PT) (T := F_PT) (N := 6) hx hb hts iw_PT hown hK hP 0 rfl rfl 0 (by decide) (hts _ t_w21) (fun _ h9 => h9) rfl d_PT_isPerson_3 ?_
  refine va_get (D := D) (ci := 1) (v := .int (σ0 1 0)) (C := R_People) (T := F_People) (N := 7) hx hb hts iw_People hown hK hP 1 rfl rfl 0 (by decide) (hts _ t_w22) (fun _ h9 => h9) rfl d_PT_isPerson_6 ?_
  refine lv_iconst (v := 1) hx hb d_PT_isPerson_9 (by decide) ?_
  refine lv_isub hx hb d_PT_isPerson_10 ?_
  obtain ⟨hg, hv⟩ := hv
  refine gk_callSi (As := [.int a1, .int 0, .int ((σ0 1 0) - 1)]) (rest := []) ⟨hx, hb, hml, hown, hts⟩ (h_PT_isWithin _ σ0 τ0 a1 0 ((σ0 1 0) - 1) hg) (gk_cwS 3 hts t_w6 rfl rfl rfl (hts _ t_w3) (hts _ t_w4) (hts _ t_w5) (by decide +kernel) ⟨Nat.le_of_ble_eq_true rfl, Nat.le_of_ble_eq_true rfl⟩) hK hP hD hS rfl hl.1 rfl (lv_room (Nat.le_of_ble_eq_true rfl)) d_PT_isPerson_11 ⟨Nat.zero_le _, Nat.zero_le _⟩ ?_
  intro r11 s11 t11 H locs hw hP hD hS
  replace hv := hv r11 s11 t11 hw
  obtain ⟨hz, hv⟩ := hv
  exact gk_zret hx hb hr hlocks (gk_nz hz) hK hP hD hS hv d_PT_isPerson_14
theorem d_PT_rule_0 : decode b_PT_rule 0 = .ok (.aload_n 0, 1) := by decide +kernel
theorem d_PT_rule_1 : decode b_PT_rule 1 = .ok (.iload_n 1, 1) := by decide +kernel
theorem d_PT_rule_2 : decode b_PT_rule 2 = .ok (.invokevirtual 115, 3) := by decide +kernel
theorem d_PT_rule_5 : decode b_PT_rule 5 = .ok (.ifCond .eq 12, 3) := by decide +kernel
theorem d_PT_rule_8 : decode b_PT_rule 8 = .ok (.iload_n 2, 1) := by decide +kernel
theorem d_PT_rule_9 : decode b_PT_rule 9 = .ok (.iconst 0, 1) := by decide +kernel
theorem d_PT_rule_10 : decode b_PT_rule 10 = .ok (.iconst 4, 1) := by decide +kernel
theorem d_PT_rule_11 : decode b_PT_rule 11 = .ok (.invokestatic 86, 3) := by decide +kernel
theorem d_PT_rule_14 : decode b_PT_rule 14 = .ok (.ifCond .ne 5, 3) := by decide +kernel
theorem d_PT_rule_17 : decode b_PT_rule 17 = .ok (.iconst 0, 1) := by decide +kernel
theorem d_PT_rule_18 : decode b_PT_rule 18 = .ok (.ireturn, 1) := by decide +kernel
theorem d_PT_rule_19 : decode b_PT_rule 19 = .ok (.aload_n 0, 1) := by decide +kernel
theorem d_PT_rule_20 : decode b_PT_rule 20 = .ok (.getfield 47, 3) := by decide +kernel
theorem d_PT_rule_23 : decode b_PT_rule 23 = .ok (.iconst 0, 1) := by decide +kernel
theorem d_PT_rule_24 : decode b_PT_rule 24 = .ok (.putfield 78, 3) := by decide +kernel
theorem d_PT_rule_27 : decode b_PT_rule 27 = .ok (.aload_n 0, 1) := by decide +kernel
theorem d_PT_rule_28 : decode b_PT_rule 28 = .ok (.getfield 10, 3) := by decide +kernel
theorem d_PT_rule_31 : decode b_PT_rule 31 = .ok (.getfield 118, 3) := by decide +kernel
theorem d_PT_rule_34 : decode b_PT_rule 34 = .ok (.iload_n 1, 1) := by decide +kernel
theorem d_PT_rule_35 : decode b_PT_rule 35 = .ok (.iload_n 2, 1) := by decide +kernel
theorem d_PT_rule_36 : decode b_PT_rule 36 = .ok (.iastore, 1) := by decide +kernel
theorem d_PT_rule_37 : decode b_PT_rule 37 = .ok (.iconst 1, 1) := by decide +kernel
theorem d_PT_rule_38 : decode b_PT_rule 38 = .ok (.ireturn, 1) := by decide +kernel
def s_PT_rule_0 (P_PT_isPerson : MI → ML → Int32 → Prop) (Q_PT_isPerson : MI → ML → Int32 → Int32 → MI → ML → Prop) (P_PT_isWithin : MI → ML → Int32 → Int32 → Int32 → Prop) (Q_PT_isWithin : MI → ML → Int32 → Int32 → Int32 → Int32 → MI → ML → Prop) (σ : MI) (τ : ML) (a1 : Int32) (a2 : Int32) (R : Int32 → MI → ML → Prop) : Prop :=
  P_PT_isPerson σ τ a1 ∧ ∀ (r2 : Int32) (s2 : MI) (t2 : ML), Q_PT_isPerson σ τ a1 r2 s2 t2 → ((r2 = 0 →
  ((0 = (0 : Int32) ∨ 0 = (1 : Int32)) ∧ R 0 s2 t2)) ∧
  (¬ r2 = 0 →
  (P_PT_isWithin s2 t2 a2 0 4 ∧ ∀ (r11 : Int32) (s11 : MI) (t11 : ML), Q_PT_isWithin s2 t2 a2 0 4 r11 s11 t11 → ((¬ r11 = 0 →
    (∀ s24 : MI, s24 = st2 s11 22 0 0 → (vp_in a1 4 ∧ (∀ s36 : MI, s36 = st2 s24 6 (Int32.toNatClampNeg a1) a2 → ((1 = (0 : Int32) ∨ 1 = (1 : Int32)) ∧ R 1 s36 t11))))) ∧
    (r11 = 0 →
    ((0 = (0 : Int32) ∨ 0 = (1 : Int32)) ∧ R 0 s11 t11))))))
set_option maxHeartbeats 4000000 in
set_option maxRecDepth 100000 in
theorem k_PT_rule (l : Launch) (D : va_G) (ad : Nat → Nat) (ci cl : ClassId)
    (pre : MI → ML → Int32 → Int32 → Prop) (post : MI → ML → Int32 → Int32 → Int32 → MI → ML → Prop) (P_PT_isPerson : MI → ML → Int32 → Prop) (Q_PT_isPerson : MI → ML → Int32 → Int32 → MI → ML → Prop) (P_PT_isWithin : MI → ML → Int32 → Int32 → Int32 → Prop) (Q_PT_isWithin : MI → ML → Int32 → Int32 → Int32 → Int32 → MI → ML → Prop)
    (h_PT_isPerson : ∀ (sz : Nat) (σ : MI) (τ : ML) (b0 : Int32), P_PT_isPerson σ τ b0 → gMi l D (xw ad ci cl) (xt ci cl) (xa ad) y_PT_isPerson w_PT_isPerson rm_PT_isPerson [.ref (ad 0), .int b0] sz σ τ (Q_PT_isPerson σ τ b0))
    (h_PT_isWithin : ∀ (sz : Nat) (σ : MI) (τ : ML) (b0 : Int32) (b1 : Int32) (b2 : Int32), P_PT_isWithin σ τ b0 b1 b2 → gMi l D (xw ad ci cl) (xt ci cl) (xa ad) y_PT_isWithin w_PT_isWithin rm_PT_isWithin [.int b0, .int b1, .int b2] sz σ τ (Q_PT_isWithin σ τ b0 b1 b2))
    (v0 : ∀ (σ0 : MI) (τ0 : ML) (a1 : Int32) (a2 : Int32), pre σ0 τ0 a1 a2 → s_PT_rule_0 P_PT_isPerson Q_PT_isPerson P_PT_isWithin Q_PT_isWithin σ0 τ0 a1 a2 (post σ0 τ0 a1 a2)) :
    ∀ (sz : Nat) (σ0 : MI) (τ0 : ML) (a1 : Int32) (a2 : Int32), pre σ0 τ0 a1 a2 → gMi l D (xw ad ci cl) (xt ci cl) (xa ad) y_PT_rule w_PT_rule rm_PT_rule [.ref (ad 0), .int a1, .int a2] sz σ0 τ0 (post σ0 τ0 a1 a2) := by
  intro sz σ0 τ0 a1 a2 hpre
  refine gk_ofWi (cc := b_PT_rule) (maxL := 3) (ret := (some .boolean)) (by decide) rfl xa_ok (Nat.le_of_ble_eq_true rfl) ?_
  intro p e s m below meth c ls hx hb hr hlocks hml hown hts hK hP hD hS hl
  have hl : lv_has ls 3 [(0, .ref (ad 0)), (1, .int a1), (2, .int a2)] := hl
  have hown : s.vm.findClass R_PT = some m.cls := hown
  have hv := v0 σ0 τ0 a1 a2 hpre
  unfold s_PT_rule_0 at hv
  refine lv_aload_n hx hb d_PT_rule_0 rfl (lv_at hl 0 rfl) ?_
  refine lv_iload_n hx hb d_PT_rule_1 rfl (lv_at hl 1 rfl) ?_
  obtain ⟨hg, hv⟩ := hv
  refine gk_callVi (As := [.int a1]) (rest := []) (b := ad 0) ⟨hx, hb, hml, hown, hts⟩ (h_PT_isPerson _ σ0 τ0 a1 hg) (gk_cwV 1 hts t_w63 rfl rfl rfl (hts _ t_w60) (hts _ t_w61) (hts _ t_w62) (hts _ t_w5) (by decide +kernel) ⟨Nat.le_of_ble_eq_true rfl, Nat.le_of_ble_eq_true rfl⟩) hK hP hD hS (va_recv hK hP (ci := 6) (q0 := 0) rfl rfl) rfl hl.1 rfl (lv_room (Nat.le_of_ble_eq_true rfl)) d_PT_rule_2 ⟨Nat.zero_le _, Nat.zero_le _⟩ ?_
  intro r2 s2 t2 H locs hw hP hD hS
  replace hv := hv r2 s2 t2 hw
  refine lv_if_eq (tgt := 17) hx hb d_PT_rule_5 (by decide) (fun hc => ?_) (fun hc => ?_)
  · replace hv := hv.1 hc
    refine lv_iconst (v := 0) hx hb d_PT_rule_17 (by decide) ?_
    obtain ⟨hz, hv⟩ := hv
    exact gk_zret hx hb hr hlocks (gk_nz hz) hK hP hD hS hv d_PT_rule_18
  · replace hv := hv.2 hc
    refine lv_iload_n hx hb d_PT_rule_8 rfl (lv_at hl 2 rfl) ?_
    refine lv_iconst (v := 0) hx hb d_PT_rule_9 (by decide) ?_
    refine lv_iconst (v := 4) hx hb d_PT_rule_10 (by decide) ?_
    obtain ⟨hg, hv⟩ := hv
    refine gk_callSi (As := [.int a2, .int 0, .int 4]) (rest := []) ⟨hx, hb, hml, hown, hts⟩ (h_PT_isWithin _ s2 t2 a2 0 4 hg) (gk_cwS 3 hts t_w6 rfl rfl rfl (hts _ t_w3) (hts _ t_w4) (hts _ t_w5) (by decide +kernel) ⟨Nat.le_of_ble_eq_true rfl, Nat.le_of_ble_eq_true rfl⟩) hK hP hD hS rfl hl.1 rfl (lv_room (Nat.le_of_ble_eq_true rfl)) d_PT_rule_11 ⟨Nat.zero_le _, Nat.zero_le _⟩ ?_
    intro r11 s11 t11 H locs hw hP hD hS
    replace hv := hv r11 s11 t11 hw
    refine lv_if_ne (tgt := 19) hx hb d_PT_rule_14 (by decide) (fun hc => ?_) (fun hc => ?_)
    · replace hv := hv.1 hc
      refine lv_aload_n hx hb d_PT_rule_19 rfl (lv_at hl 0 rfl) ?_
      refine va_get (D := D) (ci := 6) (v := .ref (ad 22)) (C := R_PT) (T := F_PT) (N := 6) hx hb hts iw_PT hown hK hP 0 rfl rfl 5 (by decide) (hts _ t_w23) (fun _ h9 => h9) rfl d_PT_rule_20 ?_
      refine lv_iconst (v := 0) hx hb d_PT_rule_23 (by decide) ?_
      refine va_put (D := D) (ci := 2) (v := .int 0) (ty := .boolean) (fs := [.int (s11 22 0), .int (s11 22 1), .int (s11 22 2), .int (s11 22 3), .ref (ad 23), .ref (ad 24), .ref (ad 25), .ref (ad 26), .ref (ad 27)]) (C := R_Plan) (T := F_Plan) (N := 9) hx hb hts iw_Plan ty_Plan ty_Plan_ok nn_Plan hown hK hP hD hS 22 rfl rfl 0 (by decide) (hts _ t_w24) (fun _ h9 => h9) rfl (by decide +kernel) rfl rfl (Nat.le_of_ble_eq_true rfl) d_PT_rule_24 (fun H locs hP hD hS => ?_)
      rw [xf_22_0] at hP hD
      obtain ⟨s24, es24⟩ : ∃ z : MI, z = st2 s11 22 0 0 := ⟨_, rfl⟩
      rw [← es24] at hP hD
      replace hv := hv s24 es24
      refine lv_aload_n hx hb d_PT_rule_27 rfl (lv_at hl 0 rfl) ?_
      refine va_get (D := D) (ci := 6) (v := .ref (ad 1)) (C := R_PT) (T := F_PT) (N := 6) hx hb hts iw_PT hown hK hP 0 rfl rfl 0 (by decide) (hts _ t_w21) (fun _ h9 => h9) rfl d_PT_rule_28 ?_
      refine va_get (D := D) (ci := 1) (v := .ref (ad 6)) (C := R_People) (T := F_People) (N := 7) hx hb hts iw_People hown hK hP 1 rfl rfl 5 (by decide) (hts _ t_w64) (fun _ h9 => h9) rfl d_PT_rule_31 ?_
      refine lv_iload_n hx hb d_PT_rule_34 rfl (lv_at hl 1 rfl) ?_
      refine lv_iload_n hx hb d_PT_rule_35 rfl (lv_at hl 2 rfl) ?_
      obtain ⟨hi, hv⟩ := hv
      refine va_iast hx hb hK hP hD hS 6 0 rfl rfl hi d_PT_rule_36 (fun H locs hP hD hS => ?_)
      rw [xa_6] at hP hD
      obtain ⟨s36, es36⟩ : ∃ z : MI, z = st2 s24 6 (Int32.toNatClampNeg a1) a2 := ⟨_, rfl⟩
      rw [← es36] at hP hD
      replace hv := hv s36 es36
      refine lv_iconst (v := 1) hx hb d_PT_rule_37 (by decide) ?_
      obtain ⟨hz, hv⟩ := hv
      exact gk_zret hx hb hr hlocks (gk_nz hz) hK hP hD hS hv d_PT_rule_38
    · replace hv := hv.2 hc
      refine lv_iconst (v := 0) hx hb d_PT_rule_17 (by decide) ?_
      obtain ⟨hz, hv⟩ := hv
      exact gk_zret hx hb hr hlocks (gk_nz hz) hK hP hD hS hv d_PT_rule_18
theorem d_Jobs_putInOrder_0 : decode b_Jobs_putInOrder 0 = .ok (.iconst 0, 1) := by decide +kernel
theorem d_Jobs_putInOrder_1 : decode b_Jobs_putInOrder 1 = .ok (.istore_n 1, 1) := by decide +kernel
theorem d_Jobs_putInOrder_2 : decode b_Jobs_putInOrder 2 = .ok (.iload_n 1, 1) := by decide +kernel
theorem d_Jobs_putInOrder_3 : decode b_Jobs_putInOrder 3 = .ok (.aload_n 0, 1) := by decide +kernel
theorem d_Jobs_putInOrder_4 : decode b_Jobs_putInOrder 4 = .ok (.getfield 9, 3) := by decide +kernel
theorem d_Jobs_putInOrder_7 : decode b_Jobs_putInOrder 7 = .ok (.if_icmp .ge 64, 3) := by decide +kernel
theorem d_Jobs_putInOrder_10 : decode b_Jobs_putInOrder 10 = .ok (.iload_n 1, 1) := by decide +kernel
theorem d_Jobs_putInOrder_11 : decode b_Jobs_putInOrder 11 = .ok (.istore_n 2, 1) := by decide +kernel
theorem d_Jobs_putInOrder_12 : decode b_Jobs_putInOrder 12 = .ok (.iload_n 2, 1) := by decide +kernel
theorem d_Jobs_putInOrder_13 : decode b_Jobs_putInOrder 13 = .ok (.ifCond .le 45, 3) := by decide +kernel
theorem d_Jobs_putInOrder_16 : decode b_Jobs_putInOrder 16 = .ok (.aload_n 0, 1) := by decide +kernel
theorem d_Jobs_putInOrder_17 : decode b_Jobs_putInOrder 17 = .ok (.getfield 22, 3) := by decide +kernel
theorem d_Jobs_putInOrder_20 : decode b_Jobs_putInOrder 20 = .ok (.aload_n 0, 1) := by decide +kernel
theorem d_Jobs_putInOrder_21 : decode b_Jobs_putInOrder 21 = .ok (.getfield 31, 3) := by decide +kernel
theorem d_Jobs_putInOrder_24 : decode b_Jobs_putInOrder 24 = .ok (.iload_n 2, 1) := by decide +kernel
theorem d_Jobs_putInOrder_25 : decode b_Jobs_putInOrder 25 = .ok (.iconst 1, 1) := by decide +kernel
theorem d_Jobs_putInOrder_26 : decode b_Jobs_putInOrder 26 = .ok (.isub, 1) := by decide +kernel
theorem d_Jobs_putInOrder_27 : decode b_Jobs_putInOrder 27 = .ok (.iaload, 1) := by decide +kernel
theorem d_Jobs_putInOrder_28 : decode b_Jobs_putInOrder 28 = .ok (.iaload, 1) := by decide +kernel
theorem d_Jobs_putInOrder_29 : decode b_Jobs_putInOrder 29 = .ok (.aload_n 0, 1) := by decide +kernel
theorem d_Jobs_putInOrder_30 : decode b_Jobs_putInOrder 30 = .ok (.getfield 22, 3) := by decide +kernel
theorem d_Jobs_putInOrder_33 : decode b_Jobs_putInOrder 33 = .ok (.iload_n 1, 1) := by decide +kernel
theorem d_Jobs_putInOrder_34 : decode b_Jobs_putInOrder 34 = .ok (.iaload, 1) := by decide +kernel
theorem d_Jobs_putInOrder_35 : decode b_Jobs_putInOrder 35 = .ok (.if_icmp .le 23, 3) := by decide +kernel
theorem d_Jobs_putInOrder_38 : decode b_Jobs_putInOrder 38 = .ok (.aload_n 0, 1) := by decide +kernel
theorem d_Jobs_putInOrder_39 : decode b_Jobs_putInOrder 39 = .ok (.getfield 31, 3) := by decide +kernel
theorem d_Jobs_putInOrder_42 : decode b_Jobs_putInOrder 42 = .ok (.iload_n 2, 1) := by decide +kernel
theorem d_Jobs_putInOrder_43 : decode b_Jobs_putInOrder 43 = .ok (.aload_n 0, 1) := by decide +kernel
theorem d_Jobs_putInOrder_44 : decode b_Jobs_putInOrder 44 = .ok (.getfield 31, 3) := by decide +kernel
theorem d_Jobs_putInOrder_47 : decode b_Jobs_putInOrder 47 = .ok (.iload_n 2, 1) := by decide +kernel
theorem d_Jobs_putInOrder_48 : decode b_Jobs_putInOrder 48 = .ok (.iconst 1, 1) := by decide +kernel
theorem d_Jobs_putInOrder_49 : decode b_Jobs_putInOrder 49 = .ok (.isub, 1) := by decide +kernel
theorem d_Jobs_putInOrder_50 : decode b_Jobs_putInOrder 50 = .ok (.iaload, 1) := by decide +kernel
theorem d_Jobs_putInOrder_51 : decode b_Jobs_putInOrder 51 = .ok (.iastore, 1) := by decide +kernel
theorem d_Jobs_putInOrder_52 : decode b_Jobs_putInOrder 52 = .ok (.iinc 2 (-1), 3) := by decide +kernel
theorem d_Jobs_putInOrder_55 : decode b_Jobs_putInOrder 55 = .ok (.goto (-43), 3) := by decide +kernel
theorem d_Jobs_putInOrder_58 : decode b_Jobs_putInOrder 58 = .ok (.aload_n 0, 1) := by decide +kernel
theorem d_Jobs_putInOrder_59 : decode b_Jobs_putInOrder 59 = .ok (.getfield 31, 3) := by decide +kernel
theorem d_Jobs_putInOrder_62 : decode b_Jobs_putInOrder 62 = .ok (.iload_n 2, 1) := by decide +kernel
theorem d_Jobs_putInOrder_63 : decode b_Jobs_putInOrder 63 = .ok (.iload_n 1, 1) := by decide +kernel
theorem d_Jobs_putInOrder_64 : decode b_Jobs_putInOrder 64 = .ok (.iastore, 1) := by decide +kernel
theorem d_Jobs_putInOrder_65 : decode b_Jobs_putInOrder 65 = .ok (.iinc 1 1, 3) := by decide +kernel
theorem d_Jobs_putInOrder_68 : decode b_Jobs_putInOrder 68 = .ok (.goto (-66), 3) := by decide +kernel
theorem d_Jobs_putInOrder_71 : decode b_Jobs_putInOrder 71 = .ok (.return_, 1) := by decide +kernel
def s_Jobs_putInOrder_58 (σ : MI) (τ : ML) (x1 : Int32) (x2 : Int32) (K2 : Int32 → MI → ML → Prop) (K12 : Int32 → Int32 → MI → ML → Prop) (R : MI → ML → Prop) : Prop :=
  vp_in x2 7 ∧ (∀ s64 : MI, s64 = st2 σ 14 (Int32.toNatClampNeg x2) x1 → (∀ y65 : Int32, y65 = x1 + 1 → (K2 y65 s64 τ)))
def s_Jobs_putInOrder_0 (σ : MI) (τ : ML) (K2 : Int32 → MI → ML → Prop) (K12 : Int32 → Int32 → MI → ML → Prop) (R : MI → ML → Prop) : Prop :=
  K2 0 σ τ
def s_Jobs_putInOrder_2 (σ : MI) (τ : ML) (x1 : Int32) (K2 : Int32 → MI → ML → Prop) (K12 : Int32 → Int32 → MI → ML → Prop) (R : MI → ML → Prop) : Prop :=
  ((σ 8 0) ≤ x1 →
  (R σ τ)) ∧
  (¬ (σ 8 0) ≤ x1 →
  (K12 x1 x1 σ τ))
def s_Jobs_putInOrder_12 (σ : MI) (τ : ML) (x1 : Int32) (x2 : Int32) (K2 : Int32 → MI → ML → Prop) (K12 : Int32 → Int32 → MI → ML → Prop) (R : MI → ML → Prop) : Prop :=
  (x2 ≤ 0 →
  (s_Jobs_putInOrder_58 σ τ x1 x2 K2 K12 R)) ∧
  (¬ x2 ≤ 0 →
  (vp_in (x2 - 1) 7 ∧ (vp_in (σ 14 (Int32.toNatClampNeg (x2 - 1))) 7 ∧ (vp_in x1 7 ∧ (((σ 11 (Int32.toNatClampNeg (σ 14 (Int32.toNatClampNeg (x2 - 1))))) ≤ (σ 11 (Int32.toNatClampNeg x1)) →
    (s_Jobs_putInOrder_58 σ τ x1 x2 K2 K12 R)) ∧
    (¬ (σ 11 (Int32.toNatClampNeg (σ 14 (Int32.toNatClampNeg (x2 - 1))))) ≤ (σ 11 (Int32.toNatClampNeg x1)) →
    (vp_in (x2 - 1) 7 ∧ (vp_in x2 7 ∧ (∀ s51 : MI, s51 = st2 σ 14 (Int32.toNatClampNeg x2) (σ 14 (Int32.toNatClampNeg (x2 - 1))) → (∀ y52 : Int32, y52 = x2 + (-1) → (K12 x1 y52 s51 τ)))))))))))
set_option maxHeartbeats 4000000 in
set_option maxRecDepth 100000 in
theorem k_Jobs_putInOrder (l : Launch) (D : va_G) (ad : Nat → Nat) (ci cl : ClassId)
    (pre : MI → ML → Prop) (post : MI → ML → MI → ML → Prop)
    (I2 : MI → ML → Int32 → MI → ML → Prop) (m2 : MI → ML → Int32 → MI → ML → Nat)
    (I12 : MI → ML → Int32 → Int32 → MI → ML → Prop) (m12 : MI → ML → Int32 → Int32 → MI → ML → Nat)
    (v0 : ∀ (σ0 : MI) (τ0 : ML), pre σ0 τ0 → s_Jobs_putInOrder_0 σ0 τ0 (fun z0 σ9 τ9 => I2 σ0 τ0 z0 σ9 τ9) (fun z0 z1 σ9 τ9 => I12 σ0 τ0 z0 z1 σ9 τ9) (post σ0 τ0))
    (v2 : ∀ (σ0 : MI) (τ0 : ML) (x1 : Int32) (σ : MI) (τ : ML), I2 σ0 τ0 x1 σ τ → s_Jobs_putInOrder_2 σ τ x1 (fun z0 σ9 τ9 => I2 σ0 τ0 z0 σ9 τ9 ∧ m2 σ0 τ0 z0 σ9 τ9 < m2 σ0 τ0 x1 σ τ) (fun z0 z1 σ9 τ9 => I12 σ0 τ0 z0 z1 σ9 τ9 ∧ m12 σ0 τ0 z0 z1 σ9 τ9 < m2 σ0 τ0 x1 σ τ) (post σ0 τ0))
    (v12 : ∀ (σ0 : MI) (τ0 : ML) (x1 : Int32) (x2 : Int32) (σ : MI) (τ : ML), I12 σ0 τ0 x1 x2 σ τ → s_Jobs_putInOrder_12 σ τ x1 x2 (fun z0 σ9 τ9 => I2 σ0 τ0 z0 σ9 τ9 ∧ m2 σ0 τ0 z0 σ9 τ9 < m12 σ0 τ0 x1 x2 σ τ) (fun z0 z1 σ9 τ9 => I12 σ0 τ0 z0 z1 σ9 τ9 ∧ m12 σ0 τ0 z0 z1 σ9 τ9 < m12 σ0 τ0 x1 x2 σ τ) (post σ0 τ0)) :
    ∀ (sz : Nat) (σ0 : MI) (τ0 : ML), pre σ0 τ0 → gMv l D (xw ad ci cl) (xt ci cl) (xa ad) y_Jobs_putInOrder w_Jobs_putInOrder rm_Jobs_putInOrder [.ref (ad 8)] sz σ0 τ0 (post σ0 τ0) := by
  intro sz σ0 τ0 hpre
  refine gk_ofWv (cc := b_Jobs_putInOrder) (maxL := 3) (ret := none) (by decide) rfl xa_ok (Nat.le_of_ble_eq_true rfl) ?_
  intro p e s m below meth c ls hx hb hr hlocks hml hown hts hK hP hD hS hl
  have hl : lv_has ls 3 [(0, .ref (ad 8))] := hl
  have hown : s.vm.findClass R_Jobs = some m.cls := hown
  have hL : ∀ n : Nat, (∀ (x1 : Int32) (σ : MI) (τ : ML) (H : Heap) (locs : List Loc) (ls : Array Slot), m2 σ0 τ0 x1 σ τ < n → I2 σ0 τ0 x1 σ τ → va_P D classes ((xw ad ci cl) σ τ) H → va_D (gA (xa ad) s.heap.size) ((xw ad ci cl) σ τ) → va_S (gA (xa ad) s.heap.size) s.heap H locs → lv_has ls 3 [(0, .ref (ad 8)), (1, .int x1)] → W p l e rm_Jobs_putInOrder s m [.ref (ad 8)].toArray below meth c H locs 0 0 (gQv D (xw ad ci cl) (xt ci cl) (xa ad) below [.ref (ad 8)] s (post σ0 τ0)) (F0 m 2 ls [])) ∧
      (∀ (x1 : Int32) (x2 : Int32) (σ : MI) (τ : ML) (H : Heap) (locs : List Loc) (ls : Array Slot), m12 σ0 τ0 x1 x2 σ τ < n → I12 σ0 τ0 x1 x2 σ τ → va_P D classes ((xw ad ci cl) σ τ) H → va_D (gA (xa ad) s.heap.size) ((xw ad ci cl) σ τ) → va_S (gA (xa ad) s.heap.size) s.heap H locs → lv_has ls 3 [(0, .ref (ad 8)), (1, .int x1), (2, .int x2)] → W p l e rm_Jobs_putInOrder s m [.ref (ad 8)].toArray below meth c H locs 0 0 (gQv D (xw ad ci cl) (xt ci cl) (xa ad) below [.ref (ad 8)] s (post σ0 τ0)) (F0 m 12 ls [])) := by
    intro n
    induction n with
    | zero => exact ⟨fun _ _ _ _ _ _ hn => absurd hn (Nat.not_lt_zero _), fun _ _ _ _ _ _ _ hn => absurd hn (Nat.not_lt_zero _)⟩
    | succ n ih =>
      refine ⟨?_, ?_⟩
      · intro x1 σ τ H locs ls hn hI hP hD hS hl
        have hv := v2 σ0 τ0 x1 σ τ hI
        unfold s_Jobs_putInOrder_2 at hv
        refine lv_iload_n hx hb d_Jobs_putInOrder_2 rfl (lv_at hl 1 rfl) ?_
        refine lv_aload_n hx hb d_Jobs_putInOrder_3 rfl (lv_at hl 0 rfl) ?_
        refine va_get (D := D) (ci := 0) (v := .int (σ 8 0)) (C := R_Jobs) (T := F_Jobs) (N := 7) hx hb hts iw_Jobs hown hK hP 8 rfl rfl 0 (by decide) (hts _ t_w39) (fun _ h9 => h9) rfl d_Jobs_putInOrder_4 ?_
        refine lv_icmp_ge (tgt := 71) hx hb d_Jobs_putInOrder_7 (by decide) (fun hc => ?_) (fun hc => ?_)
        · replace hv := hv.1 hc
          exact gk_vret hx hb hr hlocks hK hP hD hS hv d_Jobs_putInOrder_71
        · replace hv := hv.2 hc
          refine lv_iload_n hx hb d_Jobs_putInOrder_10 rfl (lv_at hl 1 rfl) ?_
          refine lv_istore_n (lv' := [(2, .int x1), (0, .ref (ad 8)), (1, .int x1)]) hx hb d_Jobs_putInOrder_11 rfl hl (by decide) rfl (fun ls hl => ?_)
          obtain ⟨hI, hm⟩ := hv
          exact ih.2 x1 x1 σ τ _ _ _ (Nat.lt_of_lt_of_le hm (Nat.le_of_lt_succ hn)) hI hP hD hS (lv_sub hl [1, 2, 0] rfl)
      · intro x1 x2 σ τ H locs ls hn hI hP hD hS hl
        have hv := v12 σ0 τ0 x1 x2 σ τ hI
        unfold s_Jobs_putInOrder_12 at hv
        have j58 : ∀ (w1 : Int32) (w2 : Int32) (σ1 : MI) (τ1 : ML) (H : Heap) (locs : List Loc) (ls : Array Slot), s_Jobs_putInOrder_58 σ1 τ1 w1 w2 (fun z0 σ9 τ9 => I2 σ0 τ0 z0 σ9 τ9 ∧ m2 σ0 τ0 z0 σ9 τ9 < m12 σ0 τ0 x1 x2 σ τ) (fun z0 z1 σ9 τ9 => I12 σ0 τ0 z0 z1 σ9 τ9 ∧ m12 σ0 τ0 z0 z1 σ9 τ9 < m12 σ0 τ0 x1 x2 σ τ) (post σ0 τ0) → va_P D classes ((xw ad ci cl) σ1 τ1) H → va_D (gA (xa ad) s.heap.size) ((xw ad ci cl) σ1 τ1) → va_S (gA (xa ad) s.heap.size) s.heap H locs → lv_has ls 3 [(0, .ref (ad 8)), (1, .int w1), (2, .int w2)] → W p l e rm_Jobs_putInOrder s m [.ref (ad 8)].toArray below meth c H locs 0 0 (gQv D (xw ad ci cl) (xt ci cl) (xa ad) below [.ref (ad 8)] s (post σ0 τ0)) (F0 m 58 ls []) := by
          intro w1 w2 σ1 τ1 H locs ls hv hP hD hS hl
          unfold s_Jobs_putInOrder_58 at hv
          refine lv_aload_n hx hb d_Jobs_putInOrder_58 rfl (lv_at hl 0 rfl) ?_
          refine va_get (D := D) (ci := 0) (v := .ref (ad 14)) (C := R_Jobs) (T := F_Jobs) (N := 7) hx hb hts iw_Jobs hown hK hP 8 rfl rfl 6 (by decide) (hts _ t_w65) (fun _ h9 => h9) rfl d_Jobs_putInOrder_59 ?_
          refine lv_iload_n hx hb d_Jobs_putInOrder_62 rfl (lv_at hl 2 rfl) ?_
          refine lv_iload_n hx hb d_Jobs_putInOrder_63 rfl (lv_at hl 1 rfl) ?_
          obtain ⟨hi, hv⟩ := hv
          refine va_iast hx hb hK hP hD hS 14 0 rfl rfl hi d_Jobs_putInOrder_64 (fun H locs hP hD hS => ?_)
          rw [xa_14] at hP hD
          obtain ⟨s64, es64⟩ : ∃ z : MI, z = st2 σ1 14 (Int32.toNatClampNeg w2) w1 := ⟨_, rfl⟩
          rw [← es64] at hP hD
          replace hv := hv s64 es64
          obtain ⟨y65, ey65⟩ : ∃ z : Int32, z = w1 + 1 := ⟨_, rfl⟩
          replace hv := hv y65 ey65
          refine lv_iinc (v := y65) (lv' := [(1, .int y65), (0, .ref (ad 8)), (2, .int w2)]) hx hb d_Jobs_putInOrder_65 hl (k := 1) rfl (by rw [ey65]; rfl) (by decide) rfl (fun ls hl => ?_)
          refine lv_goto (tgt := 2) hx hb d_Jobs_putInOrder_68 (by decide) ?_
          obtain ⟨hI, hm⟩ := hv
          exact ih.1 y65 s64 τ1 _ _ _ (Nat.lt_of_lt_of_le hm (Nat.le_of_lt_succ hn)) hI hP hD hS (lv_sub hl [1, 0] rfl)
        refine lv_iload_n hx hb d_Jobs_putInOrder_12 rfl (lv_at hl 2 rfl) ?_
        refine lv_if_le (tgt := 58) hx hb d_Jobs_putInOrder_13 (by decide) (fun hc => ?_) (fun hc => ?_)
        · replace hv := hv.1 hc
          exact j58 x1 x2 σ τ _ _ _ hv hP hD hS (lv_sub hl [0, 1, 2] rfl)
        · replace hv := hv.2 hc
          refine lv_aload_n hx hb d_Jobs_putInOrder_16 rfl (lv_at hl 0 rfl) ?_
          refine va_get (D := D) (ci := 0) (v := .ref (ad 11)) (C := R_Jobs) (T := F_Jobs) (N := 7) hx hb hts iw_Jobs hown hK hP 8 rfl rfl 3 (by decide) (hts _ t_w42) (fun _ h9 => h9) rfl d_Jobs_putInOrder_17 ?_
          refine lv_aload_n hx hb d_Jobs_putInOrder_20 rfl (lv_at hl 0 rfl) ?_
          refine va_get (D := D) (ci := 0) (v := .ref (ad 14)) (C := R_Jobs) (T := F_Jobs) (N := 7) hx hb hts iw_Jobs hown hK hP 8 rfl rfl 6 (by decide) (hts _ t_w65) (fun _ h9 => h9) rfl d_Jobs_putInOrder_21 ?_
          refine lv_iload_n hx hb d_Jobs_putInOrder_24 rfl (lv_at hl 2 rfl) ?_
          refine lv_iconst (v := 1) hx hb d_Jobs_putInOrder_25 (by decide) ?_
          refine lv_isub hx hb d_Jobs_putInOrder_26 ?_
          obtain ⟨hi, hv⟩ := hv
          refine va_iald hx hb hK hP 14 0 rfl rfl hi d_Jobs_putInOrder_27 ?_
          obtain ⟨hi, hv⟩ := hv
          refine va_iald hx hb hK hP 11 0 rfl rfl hi d_Jobs_putInOrder_28 ?_
          refine lv_aload_n hx hb d_Jobs_putInOrder_29 rfl (lv_at hl 0 rfl) ?_
          refine va_get (D := D) (ci := 0) (v := .ref (ad 11)) (C := R_Jobs) (T := F_Jobs) (N := 7) hx hb hts iw_Jobs hown hK hP 8 rfl rfl 3 (by decide) (hts _ t_w42) (fun _ h9 => h9) rfl d_Jobs_putInOrder_30 ?_
          refine lv_iload_n hx hb d_Jobs_putInOrder_33 rfl (lv_at hl 1 rfl) ?_
          obtain ⟨hi, hv⟩ := hv
          refine va_iald hx hb hK hP 11 0 rfl rfl hi d_Jobs_putInOrder_34 ?_
          refine lv_icmp_le (tgt := 58) hx hb d_Jobs_putInOrder_35 (by decide) (fun hc => ?_) (fun hc => ?_)
          · replace hv := hv.1 hc
            exact j58 x1 x2 σ τ _ _ _ hv hP hD hS (lv_sub hl [0, 1, 2] rfl)
          · replace hv := hv.2 hc
            refine lv_aload_n hx hb d_Jobs_putInOrder_38 rfl (lv_at hl 0 rfl) ?_
            refine va_get (D := D) (ci := 0) (v := .ref (ad 14)) (C := R_Jobs) (T := F_Jobs) (N := 7) hx hb hts iw_Jobs hown hK hP 8 rfl rfl 6 (by decide) (hts _ t_w65) (fun _ h9 => h9) rfl d_Jobs_putInOrder_39 ?_
            refine lv_iload_n hx hb d_Jobs_putInOrder_42 rfl (lv_at hl 2 rfl) ?_
            refine lv_aload_n hx hb d_Jobs_putInOrder_43 rfl (lv_at hl 0 rfl) ?_
            refine va_get (D := D) (ci := 0) (v := .ref (ad 14)) (C := R_Jobs) (T := F_Jobs) (N := 7) hx hb hts iw_Jobs hown hK hP 8 rfl rfl 6 (by decide) (hts _ t_w65) (fun _ h9 => h9) rfl d_Jobs_putInOrder_44 ?_
            refine lv_iload_n hx hb d_Jobs_putInOrder_47 rfl (lv_at hl 2 rfl) ?_
            refine lv_iconst (v := 1) hx hb d_Jobs_putInOrder_48 (by decide) ?_
            refine lv_isub hx hb d_Jobs_putInOrder_49 ?_
            obtain ⟨hi, hv⟩ := hv
            refine va_iald hx hb hK hP 14 0 rfl rfl hi d_Jobs_putInOrder_50 ?_
            obtain ⟨hi, hv⟩ := hv
            refine va_iast hx hb hK hP hD hS 14 0 rfl rfl hi d_Jobs_putInOrder_51 (fun H locs hP hD hS => ?_)
            rw [xa_14] at hP hD
            obtain ⟨s51, es51⟩ : ∃ z : MI, z = st2 σ 14 (Int32.toNatClampNeg x2) (σ 14 (Int32.toNatClampNeg (x2 - 1))) := ⟨_, rfl⟩
            rw [← es51] at hP hD
            replace hv := hv s51 es51
            obtain ⟨y52, ey52⟩ : ∃ z : Int32, z = x2 + (-1) := ⟨_, rfl⟩
            replace hv := hv y52 ey52
            refine lv_iinc (v := y52) (lv' := [(2, .int y52), (0, .ref (ad 8)), (1, .int x1)]) hx hb d_Jobs_putInOrder_52 hl (k := 2) rfl (by rw [ey52]; rfl) (by decide) rfl (fun ls hl => ?_)
            refine lv_goto (tgt := 12) hx hb d_Jobs_putInOrder_55 (by decide) ?_
            obtain ⟨hI, hm⟩ := hv
            exact ih.2 x1 y52 s51 τ _ _ _ (Nat.lt_of_lt_of_le hm (Nat.le_of_lt_succ hn)) hI hP hD hS (lv_sub hl [1, 2, 0] rfl)
  have hv := v0 σ0 τ0 hpre
  unfold s_Jobs_putInOrder_0 at hv
  refine lv_iconst (v := 0) hx hb d_Jobs_putInOrder_0 (by decide) ?_
  refine lv_istore_n (lv' := [(1, .int 0), (0, .ref (ad 8))]) hx hb d_Jobs_putInOrder_1 rfl hl (by decide) rfl (fun ls hl => ?_)
  exact (hL _).1 0 σ0 τ0 _ _ _ (Nat.lt_succ_self _) hv hP hD hS (lv_sub hl [1, 0] rfl)
theorem d_People_failsForOne_0 : decode b_People_failsForOne 0 = .ok (.iconst 0, 1) := by decide +kernel
theorem d_People_failsForOne_1 : decode b_People_failsForOne 1 = .ok (.istore_n 2, 1) := by decide +kernel
theorem d_People_failsForOne_2 : decode b_People_failsForOne 2 = .ok (.iload_n 2, 1) := by decide +kernel
theorem d_People_failsForOne_3 : decode b_People_failsForOne 3 = .ok (.aload_n 1, 1) := by decide +kernel
theorem d_People_failsForOne_4 : decode b_People_failsForOne 4 = .ok (.getfield 38, 3) := by decide +kernel
theorem d_People_failsForOne_7 : decode b_People_failsForOne 7 = .ok (.if_icmp .ge 33, 3) := by decide +kernel
theorem d_People_failsForOne_10 : decode b_People_failsForOne 10 = .ok (.iload_n 0, 1) := by decide +kernel
theorem d_People_failsForOne_11 : decode b_People_failsForOne 11 = .ok (.iconst 4, 1) := by decide +kernel
theorem d_People_failsForOne_12 : decode b_People_failsForOne 12 = .ok (.if_icmp .ne 5, 3) := by decide +kernel
theorem d_People_failsForOne_15 : decode b_People_failsForOne 15 = .ok (.iconst 1, 1) := by decide +kernel
theorem d_People_failsForOne_16 : decode b_People_failsForOne 16 = .ok (.ireturn, 1) := by decide +kernel
theorem d_People_failsForOne_17 : decode b_People_failsForOne 17 = .ok (.iload_n 0, 1) := by decide +kernel
theorem d_People_failsForOne_18 : decode b_People_failsForOne 18 = .ok (.iconst 3, 1) := by decide +kernel
theorem d_People_failsForOne_19 : decode b_People_failsForOne 19 = .ok (.if_icmp .ne 15, 3) := by decide +kernel
theorem d_People_failsForOne_22 : decode b_People_failsForOne 22 = .ok (.aload_n 1, 1) := by decide +kernel
theorem d_People_failsForOne_23 : decode b_People_failsForOne 23 = .ok (.getfield 41, 3) := by decide +kernel
theorem d_People_failsForOne_26 : decode b_People_failsForOne 26 = .ok (.iload_n 2, 1) := by decide +kernel
theorem d_People_failsForOne_27 : decode b_People_failsForOne 27 = .ok (.iaload, 1) := by decide +kernel
theorem d_People_failsForOne_28 : decode b_People_failsForOne 28 = .ok (.iconst 5, 1) := by decide +kernel
theorem d_People_failsForOne_29 : decode b_People_failsForOne 29 = .ok (.if_icmp .ne 5, 3) := by decide +kernel
theorem d_People_failsForOne_32 : decode b_People_failsForOne 32 = .ok (.iconst 1, 1) := by decide +kernel
theorem d_People_failsForOne_33 : decode b_People_failsForOne 33 = .ok (.ireturn, 1) := by decide +kernel
theorem d_People_failsForOne_34 : decode b_People_failsForOne 34 = .ok (.iinc 2 1, 3) := by decide +kernel
theorem d_People_failsForOne_37 : decode b_People_failsForOne 37 = .ok (.goto (-35), 3) := by decide +kernel
theorem d_People_failsForOne_40 : decode b_People_failsForOne 40 = .ok (.iconst 0, 1) := by decide +kernel
theorem d_People_failsForOne_41 : decode b_People_failsForOne 41 = .ok (.ireturn, 1) := by decide +kernel
def s_People_failsForOne_0 (σ : MI) (τ : ML) (a0 : Int32) (K2 : Int32 → Int32 → MI → ML → Prop) (R : Int32 → MI → ML → Prop) : Prop :=
  K2 a0 0 σ τ
def s_People_failsForOne_2 (σ : MI) (τ : ML) (x0 : Int32) (x2 : Int32) (K2 : Int32 → Int32 → MI → ML → Prop) (R : Int32 → MI → ML → Prop) : Prop :=
  ((σ 8 0) ≤ x2 →
  ((0 = (0 : Int32) ∨ 0 = (1 : Int32)) ∧ R 0 σ τ)) ∧
  (¬ (σ 8 0) ≤ x2 →
  ((¬ x0 = 4 →
    ((¬ x0 = 3 →
      (∀ y34 : Int32, y34 = x2 + 1 → (K2 x0 y34 σ τ))) ∧
      (x0 = 3 →
      (vp_in x2 7 ∧ ((¬ (σ 9 (Int32.toNatClampNeg x2)) = 5 →
        (∀ y34 : Int32, y34 = x2 + 1 → (K2 x0 y34 σ τ))) ∧
        ((σ 9 (Int32.toNatClampNeg x2)) = 5 →
        ((1 = (0 : Int32) ∨ 1 = (1 : Int32)) ∧ R 1 σ τ))))))) ∧
    (x0 = 4 →
    ((1 = (0 : Int32) ∨ 1 = (1 : Int32)) ∧ R 1 σ τ))))
set_option maxHeartbeats 4000000 in
set_option maxRecDepth 100000 in
theorem k_People_failsForOne (l : Launch) (D : va_G) (ad : Nat → Nat) (ci cl : ClassId)
    (pre : MI → ML → Int32 → Prop) (post : MI → ML → Int32 → Int32 → MI → ML → Prop)
    (I2 : MI → ML → Int32 → Int32 → Int32 → MI → ML → Prop) (m2 : MI → ML → Int32 → Int32 → Int32 → MI → ML → Nat)
    (v0 : ∀ (σ0 : MI) (τ0 : ML) (a0 : Int32), pre σ0 τ0 a0 → s_People_failsForOne_0 σ0 τ0 a0 (fun z0 z1 σ9 τ9 => I2 σ0 τ0 a0 z0 z1 σ9 τ9) (post σ0 τ0 a0))
    (v2 : ∀ (σ0 : MI) (τ0 : ML) (a0 : Int32) (x0 : Int32) (x2 : Int32) (σ : MI) (τ : ML), I2 σ0 τ0 a0 x0 x2 σ τ → s_People_failsForOne_2 σ τ x0 x2 (fun z0 z1 σ9 τ9 => I2 σ0 τ0 a0 z0 z1 σ9 τ9 ∧ m2 σ0 τ0 a0 z0 z1 σ9 τ9 < m2 σ0 τ0 a0 x0 x2 σ τ) (post σ0 τ0 a0)) :
    ∀ (sz : Nat) (σ0 : MI) (τ0 : ML) (a0 : Int32), pre σ0 τ0 a0 → gMi l D (xw ad ci cl) (xt ci cl) (xa ad) y_People_failsForOne w_People_failsForOne rm_People_failsForOne [.int a0, .ref (ad 8)] sz σ0 τ0 (post σ0 τ0 a0) := by
  intro sz σ0 τ0 a0 hpre
  refine gk_ofWi (cc := b_People_failsForOne) (maxL := 3) (ret := (some .boolean)) (by decide) rfl xa_ok (Nat.le_of_ble_eq_true rfl) ?_
  intro p e s m below meth c ls hx hb hr hlocks hml hown hts hK hP hD hS hl
  have hl : lv_has ls 3 [(0, .int a0), (1, .ref (ad 8))] := hl
  have hown : s.vm.findClass R_People = some m.cls := hown
  have hL : ∀ n : Nat, (∀ (x0 : Int32) (x2 : Int32) (σ : MI) (τ : ML) (H : Heap) (locs : List Loc) (ls : Array Slot), m2 σ0 τ0 a0 x0 x2 σ τ < n → I2 σ0 τ0 a0 x0 x2 σ τ → va_P D classes ((xw ad ci cl) σ τ) H → va_D (gA (xa ad) s.heap.size) ((xw ad ci cl) σ τ) → va_S (gA (xa ad) s.heap.size) s.heap H locs → lv_has ls 3 [(0, .int x0), (1, .ref (ad 8)), (2, .int x2)] → W p l e rm_People_failsForOne s m [.int a0, .ref (ad 8)].toArray below meth c H locs 0 0 (gQi D (xw ad ci cl) (xt ci cl) (xa ad) below [.int a0, .ref (ad 8)] s (post σ0 τ0 a0)) (F0 m 2 ls [])) := by
    intro n
    induction n with
    | zero => exact fun _ _ _ _ _ _ _ hn => absurd hn (Nat.not_lt_zero _)
    | succ n ih =>
      · intro x0 x2 σ τ H locs ls hn hI hP hD hS hl
        have hv := v2 σ0 τ0 a0 x0 x2 σ τ hI
        unfold s_People_failsForOne_2 at hv
        refine lv_iload_n hx hb d_People_failsForOne_2 rfl (lv_at hl 2 rfl) ?_
        refine lv_aload_n hx hb d_People_failsForOne_3 rfl (lv_at hl 1 rfl) ?_
        refine va_get (D := D) (ci := 0) (v := .int (σ 8 0)) (C := R_Jobs) (T := F_Jobs) (N := 7) hx hb hts iw_Jobs hown hK hP 8 rfl rfl 0 (by decide) (hts _ t_w66) (fun _ h9 => h9) rfl d_People_failsForOne_4 ?_
        refine lv_icmp_ge (tgt := 40) hx hb d_People_failsForOne_7 (by decide) (fun hc => ?_) (fun hc => ?_)
        · replace hv := hv.1 hc
          refine lv_iconst (v := 0) hx hb d_People_failsForOne_40 (by decide) ?_
          obtain ⟨hz, hv⟩ := hv
          exact gk_zret hx hb hr hlocks (gk_nz hz) hK hP hD hS hv d_People_failsForOne_41
        · replace hv := hv.2 hc
          refine lv_iload_n hx hb d_People_failsForOne_10 rfl (lv_at hl 0 rfl) ?_
          refine lv_iconst (v := 4) hx hb d_People_failsForOne_11 (by decide) ?_
          refine lv_icmp_ne (tgt := 17) hx hb d_People_failsForOne_12 (by decide) (fun hc => ?_) (fun hc => ?_)
          · replace hv := hv.1 hc
            refine lv_iload_n hx hb d_People_failsForOne_17 rfl (lv_at hl 0 rfl) ?_
            refine lv_iconst (v := 3) hx hb d_People_failsForOne_18 (by decide) ?_
            refine lv_icmp_ne (tgt := 34) hx hb d_People_failsForOne_19 (by decide) (fun hc => ?_) (fun hc => ?_)
            · replace hv := hv.1 hc
              obtain ⟨y34, ey34⟩ : ∃ z : Int32, z = x2 + 1 := ⟨_, rfl⟩
              replace hv := hv y34 ey34
              refine lv_iinc (v := y34) (lv' := [(2, .int y34), (0, .int x0), (1, .ref (ad 8))]) hx hb d_People_failsForOne_34 hl (k := 2) rfl (by rw [ey34]; rfl) (by decide) rfl (fun ls hl => ?_)
              refine lv_goto (tgt := 2) hx hb d_People_failsForOne_37 (by decide) ?_
              obtain ⟨hI, hm⟩ := hv
              exact ih x0 y34 σ τ _ _ _ (Nat.lt_of_lt_of_le hm (Nat.le_of_lt_succ hn)) hI hP hD hS (lv_sub hl [1, 2, 0] rfl)
            · replace hv := hv.2 hc
              refine lv_aload_n hx hb d_People_failsForOne_22 rfl (lv_at hl 1 rfl) ?_
              refine va_get (D := D) (ci := 0) (v := .ref (ad 9)) (C := R_Jobs) (T := F_Jobs) (N := 7) hx hb hts iw_Jobs hown hK hP 8 rfl rfl 1 (by decide) (hts _ t_w67) (fun _ h9 => h9) rfl d_People_failsForOne_23 ?_
              refine lv_iload_n hx hb d_People_failsForOne_26 rfl (lv_at hl 2 rfl) ?_
              obtain ⟨hi, hv⟩ := hv
              refine va_iald hx hb hK hP 9 0 rfl rfl hi d_People_failsForOne_27 ?_
              refine lv_iconst (v := 5) hx hb d_People_failsForOne_28 (by decide) ?_
              refine lv_icmp_ne (tgt := 34) hx hb d_People_failsForOne_29 (by decide) (fun hc => ?_) (fun hc => ?_)
              · replace hv := hv.1 hc
                obtain ⟨y34, ey34⟩ : ∃ z : Int32, z = x2 + 1 := ⟨_, rfl⟩
                replace hv := hv y34 ey34
                refine lv_iinc (v := y34) (lv' := [(2, .int y34), (0, .int x0), (1, .ref (ad 8))]) hx hb d_People_failsForOne_34 hl (k := 2) rfl (by rw [ey34]; rfl) (by decide) rfl (fun ls hl => ?_)
                refine lv_goto (tgt := 2) hx hb d_People_failsForOne_37 (by decide) ?_
                obtain ⟨hI, hm⟩ := hv
                exact ih x0 y34 σ τ _ _ _ (Nat.lt_of_lt_of_le hm (Nat.le_of_lt_succ hn)) hI hP hD hS (lv_sub hl [1, 2, 0] rfl)
              · replace hv := hv.2 hc
                refine lv_iconst (v := 1) hx hb d_People_failsForOne_32 (by decide) ?_
                obtain ⟨hz, hv⟩ := hv
                exact gk_zret hx hb hr hlocks (gk_nz hz) hK hP hD hS hv d_People_failsForOne_33
          · replace hv := hv.2 hc
            refine lv_iconst (v := 1) hx hb d_People_failsForOne_15 (by decide) ?_
            obtain ⟨hz, hv⟩ := hv
            exact gk_zret hx hb hr hlocks (gk_nz hz) hK hP hD hS hv d_People_failsForOne_16
  have hv := v0 σ0 τ0 a0 hpre
  unfold s_People_failsForOne_0 at hv
  refine lv_iconst (v := 0) hx hb d_People_failsForOne_0 (by decide) ?_
  refine lv_istore_n (lv' := [(2, .int 0), (0, .int a0), (1, .ref (ad 8))]) hx hb d_People_failsForOne_1 rfl hl (by decide) rfl (fun ls hl => ?_)
  exact (hL _) a0 0 σ0 τ0 _ _ _ (Nat.lt_succ_self _) hv hP hD hS (lv_sub hl [1, 2, 0] rfl)
theorem d_People_askRules_0 : decode b_People_askRules 0 = .ok (.iconst 0, 1) := by decide +kernel
theorem d_People_askRules_1 : decode b_People_askRules 1 = .ok (.istore_n 2, 1) := by decide +kernel
theorem d_People_askRules_2 : decode b_People_askRules 2 = .ok (.iconst 0, 1) := by decide +kernel
theorem d_People_askRules_3 : decode b_People_askRules 3 = .ok (.istore_n 3, 1) := by decide +kernel
theorem d_People_askRules_4 : decode b_People_askRules 4 = .ok (.iload_n 3, 1) := by decide +kernel
theorem d_People_askRules_5 : decode b_People_askRules 5 = .ok (.aload_n 0, 1) := by decide +kernel
theorem d_People_askRules_6 : decode b_People_askRules 6 = .ok (.getfield 9, 3) := by decide +kernel
theorem d_People_askRules_9 : decode b_People_askRules 9 = .ok (.if_icmp .ge 38, 3) := by decide +kernel
theorem d_People_askRules_12 : decode b_People_askRules 12 = .ok (.aload_n 0, 1) := by decide +kernel
theorem d_People_askRules_13 : decode b_People_askRules 13 = .ok (.getfield 28, 3) := by decide +kernel
theorem d_People_askRules_16 : decode b_People_askRules 16 = .ok (.iload_n 3, 1) := by decide +kernel
theorem d_People_askRules_17 : decode b_People_askRules 17 = .ok (.iaload, 1) := by decide +kernel
theorem d_People_askRules_18 : decode b_People_askRules 18 = .ok (.aload_n 1, 1) := by decide +kernel
theorem d_People_askRules_19 : decode b_People_askRules 19 = .ok (.invokestatic 34, 3) := by decide +kernel
theorem d_People_askRules_22 : decode b_People_askRules 22 = .ok (.ifCond .eq 19, 3) := by decide +kernel
theorem d_People_askRules_25 : decode b_People_askRules 25 = .ok (.aload_n 0, 1) := by decide +kernel
theorem d_People_askRules_26 : decode b_People_askRules 26 = .ok (.getfield 31, 3) := by decide +kernel
theorem d_People_askRules_29 : decode b_People_askRules 29 = .ok (.iload_n 3, 1) := by decide +kernel
theorem d_People_askRules_30 : decode b_People_askRules 30 = .ok (.dup2, 1) := by decide +kernel
theorem d_People_askRules_31 : decode b_People_askRules 31 = .ok (.iaload, 1) := by decide +kernel
theorem d_People_askRules_32 : decode b_People_askRules 32 = .ok (.iconst 1, 1) := by decide +kernel
theorem d_People_askRules_33 : decode b_People_askRules 33 = .ok (.iadd, 1) := by decide +kernel
theorem d_People_askRules_34 : decode b_People_askRules 34 = .ok (.iastore, 1) := by decide +kernel
theorem d_People_askRules_35 : decode b_People_askRules 35 = .ok (.iload_n 2, 1) := by decide +kernel
theorem d_People_askRules_36 : decode b_People_askRules 36 = .ok (.iconst 1, 1) := by decide +kernel
theorem d_People_askRules_37 : decode b_People_askRules 37 = .ok (.iload_n 3, 1) := by decide +kernel
theorem d_People_askRules_38 : decode b_People_askRules 38 = .ok (.ishl, 1) := by decide +kernel
theorem d_People_askRules_39 : decode b_People_askRules 39 = .ok (.ior, 1) := by decide +kernel
theorem d_People_askRules_40 : decode b_People_askRules 40 = .ok (.istore_n 2, 1) := by decide +kernel
theorem d_People_askRules_41 : decode b_People_askRules 41 = .ok (.iinc 3 1, 3) := by decide +kernel
theorem d_People_askRules_44 : decode b_People_askRules 44 = .ok (.goto (-40), 3) := by decide +kernel
theorem d_People_askRules_47 : decode b_People_askRules 47 = .ok (.iload_n 2, 1) := by decide +kernel
theorem d_People_askRules_48 : decode b_People_askRules 48 = .ok (.ireturn, 1) := by decide +kernel
def s_People_askRules_0 (P_People_failsForOne : MI → ML → Int32 → Prop) (Q_People_failsForOne : MI → ML → Int32 → Int32 → MI → ML → Prop) (σ : MI) (τ : ML) (K4 : Int32 → Int32 → MI → ML → Prop) (R : Int32 → MI → ML → Prop) : Prop :=
  K4 0 0 σ τ
def s_People_askRules_4 (P_People_failsForOne : MI → ML → Int32 → Prop) (Q_People_failsForOne : MI → ML → Int32 → Int32 → MI → ML → Prop) (σ : MI) (τ : ML) (x2 : Int32) (x3 : Int32) (K4 : Int32 → Int32 → MI → ML → Prop) (R : Int32 → MI → ML → Prop) : Prop :=
  ((σ 1 0) ≤ x3 →
  (R x2 σ τ)) ∧
  (¬ (σ 1 0) ≤ x3 →
  (vp_in x3 4 ∧ (P_People_failsForOne σ τ (σ 6 (Int32.toNatClampNeg x3)) ∧ ∀ (r19 : Int32) (s19 : MI) (t19 : ML), Q_People_failsForOne σ τ (σ 6 (Int32.toNatClampNeg x3)) r19 s19 t19 → ((r19 = 0 →
    (∀ y41 : Int32, y41 = x3 + 1 → (K4 x2 y41 s19 t19))) ∧
    (¬ r19 = 0 →
    (vp_in x3 4 ∧ (vp_in x3 4 ∧ (∀ s34 : MI, s34 = st2 s19 7 (Int32.toNatClampNeg x3) ((s19 7 (Int32.toNatClampNeg x3)) + 1) → (∀ y40 : Int32, y40 = x2 ||| (1 <<< (x3 &&& 31)) → (∀ y41 : Int32, y41 = x3 + 1 → (K4 y40 y41 s34 t19)))))))))))
set_option maxHeartbeats 4000000 in
set_option maxRecDepth 100000 in
theorem k_People_askRules (l : Launch) (D : va_G) (ad : Nat → Nat) (ci cl : ClassId)
    (pre : MI → ML → Prop) (post : MI → ML → Int32 → MI → ML → Prop) (P_People_failsForOne : MI → ML → Int32 → Prop) (Q_People_failsForOne : MI → ML → Int32 → Int32 → MI → ML → Prop)
    (h_People_failsForOne : ∀ (sz : Nat) (σ : MI) (τ : ML) (b0 : Int32), P_People_failsForOne σ τ b0 → gMi l D (xw ad ci cl) (xt ci cl) (xa ad) y_People_failsForOne w_People_failsForOne rm_People_failsForOne [.int b0, .ref (ad 8)] sz σ τ (Q_People_failsForOne σ τ b0))
    (I4 : MI → ML → Int32 → Int32 → MI → ML → Prop) (m4 : MI → ML → Int32 → Int32 → MI → ML → Nat)
    (v0 : ∀ (σ0 : MI) (τ0 : ML), pre σ0 τ0 → s_People_askRules_0 P_People_failsForOne Q_People_failsForOne σ0 τ0 (fun z0 z1 σ9 τ9 => I4 σ0 τ0 z0 z1 σ9 τ9) (post σ0 τ0))
    (v4 : ∀ (σ0 : MI) (τ0 : ML) (x2 : Int32) (x3 : Int32) (σ : MI) (τ : ML), I4 σ0 τ0 x2 x3 σ τ → s_People_askRules_4 P_People_failsForOne Q_People_failsForOne σ τ x2 x3 (fun z0 z1 σ9 τ9 => I4 σ0 τ0 z0 z1 σ9 τ9 ∧ m4 σ0 τ0 z0 z1 σ9 τ9 < m4 σ0 τ0 x2 x3 σ τ) (post σ0 τ0)) :
    ∀ (sz : Nat) (σ0 : MI) (τ0 : ML), pre σ0 τ0 → gMi l D (xw ad ci cl) (xt ci cl) (xa ad) y_People_askRules w_People_askRules rm_People_askRules [.ref (ad 1), .ref (ad 8)] sz σ0 τ0 (post σ0 τ0) := by
  intro sz σ0 τ0 hpre
  refine gk_ofWi (cc := b_People_askRules) (maxL := 4) (ret := (some .int)) (by decide) rfl xa_ok (Nat.le_of_ble_eq_true rfl) ?_
  intro p e s m below meth c ls hx hb hr hlocks hml hown hts hK hP hD hS hl
  have hl : lv_has ls 4 [(0, .ref (ad 1)), (1, .ref (ad 8))] := hl
  have hown : s.vm.findClass R_People = some m.cls := hown
  have hL : ∀ n : Nat, (∀ (x2 : Int32) (x3 : Int32) (σ : MI) (τ : ML) (H : Heap) (locs : List Loc) (ls : Array Slot), m4 σ0 τ0 x2 x3 σ τ < n → I4 σ0 τ0 x2 x3 σ τ → va_P D classes ((xw ad ci cl) σ τ) H → va_D (gA (xa ad) s.heap.size) ((xw ad ci cl) σ τ) → va_S (gA (xa ad) s.heap.size) s.heap H locs → lv_has ls 4 [(0, .ref (ad 1)), (1, .ref (ad 8)), (2, .int x2), (3, .int x3)] → W p l e rm_People_askRules s m [.ref (ad 1), .ref (ad 8)].toArray below meth c H locs 0 0 (gQi D (xw ad ci cl) (xt ci cl) (xa ad) below [.ref (ad 1), .ref (ad 8)] s (post σ0 τ0)) (F0 m 4 ls [])) := by
    intro n
    induction n with
    | zero => exact fun _ _ _ _ _ _ _ hn => absurd hn (Nat.not_lt_zero _)
    | succ n ih =>
      · intro x2 x3 σ τ H locs ls hn hI hP hD hS hl
        have hv := v4 σ0 τ0 x2 x3 σ τ hI
        unfold s_People_askRules_4 at hv
        refine lv_iload_n hx hb d_People_askRules_4 rfl (lv_at hl 3 rfl) ?_
        refine lv_aload_n hx hb d_People_askRules_5 rfl (lv_at hl 0 rfl) ?_
        refine va_get (D := D) (ci := 1) (v := .int (σ 1 0)) (C := R_People) (T := F_People) (N := 7) hx hb hts iw_People hown hK hP 1 rfl rfl 0 (by decide) (hts _ t_w7) (fun _ h9 => h9) rfl d_People_askRules_6 ?_
        refine lv_icmp_ge (tgt := 47) hx hb d_People_askRules_9 (by decide) (fun hc => ?_) (fun hc => ?_)
        · replace hv := hv.1 hc
          refine lv_iload_n hx hb d_People_askRules_47 rfl (lv_at hl 2 rfl) ?_
          exact gk_iret hx hb hr hlocks hK hP hD hS hv d_People_askRules_48
        · replace hv := hv.2 hc
          refine lv_aload_n hx hb d_People_askRules_12 rfl (lv_at hl 0 rfl) ?_
          refine va_get (D := D) (ci := 1) (v := .ref (ad 6)) (C := R_People) (T := F_People) (N := 7) hx hb hts iw_People hown hK hP 1 rfl rfl 5 (by decide) (hts _ t_w68) (fun _ h9 => h9) rfl d_People_askRules_13 ?_
          refine lv_iload_n hx hb d_People_askRules_16 rfl (lv_at hl 3 rfl) ?_
          obtain ⟨hi, hv⟩ := hv
          refine va_iald hx hb hK hP 6 0 rfl rfl hi d_People_askRules_17 ?_
          refine lv_aload_n hx hb d_People_askRules_18 rfl (lv_at hl 1 rfl) ?_
          obtain ⟨hg, hv⟩ := hv
          refine gk_callSi (As := [.int (σ 6 (Int32.toNatClampNeg x3)), .ref (ad 8)]) (rest := []) ⟨hx, hb, hml, hown, hts⟩ (h_People_failsForOne _ σ τ (σ 6 (Int32.toNatClampNeg x3)) hg) (gk_cwS 2 hts t_w71 rfl rfl rfl (hts _ t_w69) (hts _ t_w70) (hts _ t_w28) (by decide +kernel) ⟨Nat.le_of_ble_eq_true rfl, Nat.le_of_ble_eq_true rfl⟩) hK hP hD hS rfl hl.1 rfl (lv_room (Nat.le_of_ble_eq_true rfl)) d_People_askRules_19 ⟨Nat.zero_le _, Nat.zero_le _⟩ ?_
          intro r19 s19 t19 H locs hw hP hD hS
          replace hv := hv r19 s19 t19 hw
          refine lv_if_eq (tgt := 41) hx hb d_People_askRules_22 (by decide) (fun hc => ?_) (fun hc => ?_)
          · replace hv := hv.1 hc
            obtain ⟨y41, ey41⟩ : ∃ z : Int32, z = x3 + 1 := ⟨_, rfl⟩
            replace hv := hv y41 ey41
            refine lv_iinc (v := y41) (lv' := [(3, .int y41), (0, .ref (ad 1)), (1, .ref (ad 8)), (2, .int x2)]) hx hb d_People_askRules_41 hl (k := 3) rfl (by rw [ey41]; rfl) (by decide) rfl (fun ls hl => ?_)
            refine lv_goto (tgt := 4) hx hb d_People_askRules_44 (by decide) ?_
            obtain ⟨hI, hm⟩ := hv
            exact ih x2 y41 s19 t19 _ _ _ (Nat.lt_of_lt_of_le hm (Nat.le_of_lt_succ hn)) hI hP hD hS (lv_sub hl [1, 2, 3, 0] rfl)
          · replace hv := hv.2 hc
            refine lv_aload_n hx hb d_People_askRules_25 rfl (lv_at hl 0 rfl) ?_
            refine va_get (D := D) (ci := 1) (v := .ref (ad 7)) (C := R_People) (T := F_People) (N := 7) hx hb hts iw_People hown hK hP 1 rfl rfl 6 (by decide) (hts _ t_w72) (fun _ h9 => h9) rfl d_People_askRules_26 ?_
            refine lv_iload_n hx hb d_People_askRules_29 rfl (lv_at hl 3 rfl) ?_
            refine lv_dup2_11 hx hb d_People_askRules_30 rfl rfl ?_
            obtain ⟨hi, hv⟩ := hv
            refine va_iald hx hb hK hP 7 0 rfl rfl hi d_People_askRules_31 ?_
            refine lv_iconst (v := 1) hx hb d_People_askRules_32 (by decide) ?_
            refine lv_iadd hx hb d_People_askRules_33 ?_
            obtain ⟨hi, hv⟩ := hv
            refine va_iast hx hb hK hP hD hS 7 0 rfl rfl hi d_People_askRules_34 (fun H locs hP hD hS => ?_)
            rw [xa_7] at hP hD
            obtain ⟨s34, es34⟩ : ∃ z : MI, z = st2 s19 7 (Int32.toNatClampNeg x3) ((s19 7 (Int32.toNatClampNeg x3)) + 1) := ⟨_, rfl⟩
            rw [← es34] at hP hD
            replace hv := hv s34 es34
            refine lv_iload_n hx hb d_People_askRules_35 rfl (lv_at hl 2 rfl) ?_
            refine lv_iconst (v := 1) hx hb d_People_askRules_36 (by decide) ?_
            refine lv_iload_n hx hb d_People_askRules_37 rfl (lv_at hl 3 rfl) ?_
            refine lv_ishl hx hb d_People_askRules_38 ?_
            refine lv_ior hx hb d_People_askRules_39 ?_
            refine lv_topi (fun y40 ey40 => ?_)
            replace hv := hv y40 ey40
            refine lv_istore_n (lv' := [(2, .int y40), (0, .ref (ad 1)), (1, .ref (ad 8)), (3, .int x3)]) hx hb d_People_askRules_40 rfl hl (by decide) rfl (fun ls hl => ?_)
            obtain ⟨y41, ey41⟩ : ∃ z : Int32, z = x3 + 1 := ⟨_, rfl⟩
            replace hv := hv y41 ey41
            refine lv_iinc (v := y41) (lv' := [(3, .int y41), (2, .int y40), (0, .ref (ad 1)), (1, .ref (ad 8))]) hx hb d_People_askRules_41 hl (k := 3) rfl (by rw [ey41]; rfl) (by decide) rfl (fun ls hl => ?_)
            refine lv_goto (tgt := 4) hx hb d_People_askRules_44 (by decide) ?_
            obtain ⟨hI, hm⟩ := hv
            exact ih y40 y41 s34 t19 _ _ _ (Nat.lt_of_lt_of_le hm (Nat.le_of_lt_succ hn)) hI hP hD hS (lv_sub hl [2, 3, 1, 0] rfl)
  have hv := v0 σ0 τ0 hpre
  unfold s_People_askRules_0 at hv
  refine lv_iconst (v := 0) hx hb d_People_askRules_0 (by decide) ?_
  refine lv_istore_n (lv' := [(2, .int 0), (0, .ref (ad 1)), (1, .ref (ad 8))]) hx hb d_People_askRules_1 rfl hl (by decide) rfl (fun ls hl => ?_)
  refine lv_iconst (v := 0) hx hb d_People_askRules_2 (by decide) ?_
  refine lv_istore_n (lv' := [(3, .int 0), (2, .int 0), (0, .ref (ad 1)), (1, .ref (ad 8))]) hx hb d_People_askRules_3 rfl hl (by decide) rfl (fun ls hl => ?_)
  exact (hL _) 0 0 σ0 τ0 _ _ _ (Nat.lt_succ_self _) hv hP hD hS (lv_sub hl [2, 3, 1, 0] rfl)
theorem d_Planner_digitShift_0 : decode b_Planner_digitShift 0 = .ok (.iconst 3, 1) := by decide +kernel
theorem d_Planner_digitShift_1 : decode b_Planner_digitShift 1 = .ok (.bipush 6, 2) := by decide +kernel
theorem d_Planner_digitShift_3 : decode b_Planner_digitShift 3 = .ok (.iload_n 0, 1) := by decide +kernel
theorem d_Planner_digitShift_4 : decode b_Planner_digitShift 4 = .ok (.isub, 1) := by decide +kernel
theorem d_Planner_digitShift_5 : decode b_Planner_digitShift 5 = .ok (.imul, 1) := by decide +kernel
theorem d_Planner_digitShift_6 : decode b_Planner_digitShift 6 = .ok (.ireturn, 1) := by decide +kernel
def s_Planner_digitShift_0 (σ : MI) (τ : ML) (a0 : Int32) (R : Int32 → MI → ML → Prop) : Prop :=
  R (3 * (6 - a0)) σ τ
set_option maxHeartbeats 4000000 in
set_option maxRecDepth 100000 in
theorem k_Planner_digitShift (l : Launch) (D : va_G) (ad : Nat → Nat) (ci cl : ClassId)
    (pre : MI → ML → Int32 → Prop) (post : MI → ML → Int32 → Int32 → MI → ML → Prop)
    (v0 : ∀ (σ0 : MI) (τ0 : ML) (a0 : Int32), pre σ0 τ0 a0 → s_Planner_digitShift_0 σ0 τ0 a0 (post σ0 τ0 a0)) :
    ∀ (sz : Nat) (σ0 : MI) (τ0 : ML) (a0 : Int32), pre σ0 τ0 a0 → gMi l D (xw ad ci cl) (xt ci cl) (xa ad) y_Planner_digitShift w_Planner_digitShift rm_Planner_digitShift [.int a0] sz σ0 τ0 (post σ0 τ0 a0) := by
  intro sz σ0 τ0 a0 hpre
  refine gk_ofWi (cc := b_Planner_digitShift) (maxL := 1) (ret := (some .int)) (by decide) rfl xa_ok (Nat.le_of_ble_eq_true rfl) ?_
  intro p e s m below meth c ls hx hb hr hlocks hml hown hts hK hP hD hS hl
  have hl : lv_has ls 1 [(0, .int a0)] := hl
  have hown : s.vm.findClass R_Planner = some m.cls := hown
  have hv := v0 σ0 τ0 a0 hpre
  unfold s_Planner_digitShift_0 at hv
  refine lv_iconst (v := 3) hx hb d_Planner_digitShift_0 (by decide) ?_
  refine lv_bipush (v := 6) hx hb d_Planner_digitShift_1 (by decide) ?_
  refine lv_iload_n hx hb d_Planner_digitShift_3 rfl (lv_at hl 0 rfl) ?_
  refine lv_isub hx hb d_Planner_digitShift_4 ?_
  refine lv_imul hx hb d_Planner_digitShift_5 ?_
  exact gk_iret hx hb hr hlocks hK hP hD hS hv d_Planner_digitShift_6
theorem d_Planner_digits_0 : decode b_Planner_digits 0 = .ok (.lconst 0, 1) := by decide +kernel
theorem d_Planner_digits_1 : decode b_Planner_digits 1 = .ok (.lstore_n 3, 1) := by decide +kernel
theorem d_Planner_digits_2 : decode b_Planner_digits 2 = .ok (.iconst 0, 1) := by decide +kernel
theorem d_Planner_digits_3 : decode b_Planner_digits 3 = .ok (.istore 5, 2) := by decide +kernel
theorem d_Planner_digits_5 : decode b_Planner_digits 5 = .ok (.iload 5, 2) := by decide +kernel
theorem d_Planner_digits_7 : decode b_Planner_digits 7 = .ok (.iload_n 1, 1) := by decide +kernel
theorem d_Planner_digits_8 : decode b_Planner_digits 8 = .ok (.if_icmp .ge 29, 3) := by decide +kernel
theorem d_Planner_digits_11 : decode b_Planner_digits 11 = .ok (.iload_n 0, 1) := by decide +kernel
theorem d_Planner_digits_12 : decode b_Planner_digits 12 = .ok (.iload 5, 2) := by decide +kernel
theorem d_Planner_digits_14 : decode b_Planner_digits 14 = .ok (.ishr, 1) := by decide +kernel
theorem d_Planner_digits_15 : decode b_Planner_digits 15 = .ok (.iconst 1, 1) := by decide +kernel
theorem d_Planner_digits_16 : decode b_Planner_digits 16 = .ok (.iand, 1) := by decide +kernel
theorem d_Planner_digits_17 : decode b_Planner_digits 17 = .ok (.ifCond .eq 14, 3) := by decide +kernel
theorem d_Planner_digits_20 : decode b_Planner_digits 20 = .ok (.lload_n 3, 1) := by decide +kernel
theorem d_Planner_digits_21 : decode b_Planner_digits 21 = .ok (.iload_n 2, 1) := by decide +kernel
theorem d_Planner_digits_22 : decode b_Planner_digits 22 = .ok (.i2l, 1) := by decide +kernel
theorem d_Planner_digits_23 : decode b_Planner_digits 23 = .ok (.iload 5, 2) := by decide +kernel
theorem d_Planner_digits_25 : decode b_Planner_digits 25 = .ok (.invokestatic 44, 3) := by decide +kernel
theorem d_Planner_digits_28 : decode b_Planner_digits 28 = .ok (.lshl, 1) := by decide +kernel
theorem d_Planner_digits_29 : decode b_Planner_digits 29 = .ok (.ladd, 1) := by decide +kernel
theorem d_Planner_digits_30 : decode b_Planner_digits 30 = .ok (.lstore_n 3, 1) := by decide +kernel
theorem d_Planner_digits_31 : decode b_Planner_digits 31 = .ok (.iinc 5 1, 3) := by decide +kernel
theorem d_Planner_digits_34 : decode b_Planner_digits 34 = .ok (.goto (-29), 3) := by decide +kernel
theorem d_Planner_digits_37 : decode b_Planner_digits 37 = .ok (.lload_n 3, 1) := by decide +kernel
theorem d_Planner_digits_38 : decode b_Planner_digits 38 = .ok (.lreturn, 1) := by decide +kernel
def s_Planner_digits_0 (P_Planner_digitShift : MI → ML → Int32 → Prop) (Q_Planner_digitShift : MI → ML → Int32 → Int32 → MI → ML → Prop) (σ : MI) (τ : ML) (a0 : Int32) (a1 : Int32) (a2 : Int32) (K5 : Int32 → Int32 → Int32 → Int64 → Int32 → MI → ML → Prop) (R : Int64 → MI → ML → Prop) : Prop :=
  K5 a0 a1 a2 0 0 σ τ
def s_Planner_digits_5 (P_Planner_digitShift : MI → ML → Int32 → Prop) (Q_Planner_digitShift : MI → ML → Int32 → Int32 → MI → ML → Prop) (σ : MI) (τ : ML) (x0 : Int32) (x1 : Int32) (x2 : Int32) (x3 : Int64) (x5 : Int32) (K5 : Int32 → Int32 → Int32 → Int64 → Int32 → MI → ML → Prop) (R : Int64 → MI → ML → Prop) : Prop :=
  (x1 ≤ x5 →
  (R x3 σ τ)) ∧
  (¬ x1 ≤ x5 →
  ((((x0 >>> (x5 &&& 31)) &&& 1) = 0 →
    (∀ y31 : Int32, y31 = x5 + 1 → (K5 x0 x1 x2 x3 y31 σ τ))) ∧
    (¬ ((x0 >>> (x5 &&& 31)) &&& 1) = 0 →
    (P_Planner_digitShift σ τ x5 ∧ ∀ (r25 : Int32) (s25 : MI) (t25 : ML), Q_Planner_digitShift σ τ x5 r25 s25 t25 → (∀ y30 : Int64, y30 = x3 + ((Int32.toInt64 x2) <<< ((Int32.toInt64 r25) &&& 63)) → (∀ y31 : Int32, y31 = x5 + 1 → (K5 x0 x1 x2 y30 y31 s25 t25)))))))
set_option maxHeartbeats 4000000 in
set_option maxRecDepth 100000 in
theorem k_Planner_digits (l : Launch) (D : va_G) (ad : Nat → Nat) (ci cl : ClassId)
    (pre : MI → ML → Int32 → Int32 → Int32 → Prop) (post : MI → ML → Int32 → Int32 → Int32 → Int64 → MI → ML → Prop) (P_Planner_digitShift : MI → ML → Int32 → Prop) (Q_Planner_digitShift : MI → ML → Int32 → Int32 → MI → ML → Prop)
    (h_Planner_digitShift : ∀ (sz : Nat) (σ : MI) (τ : ML) (b0 : Int32), P_Planner_digitShift σ τ b0 → gMi l D (xw ad ci cl) (xt ci cl) (xa ad) y_Planner_digitShift w_Planner_digitShift rm_Planner_digitShift [.int b0] sz σ τ (Q_Planner_digitShift σ τ b0))
    (I5 : MI → ML → Int32 → Int32 → Int32 → Int32 → Int32 → Int32 → Int64 → Int32 → MI → ML → Prop) (m5 : MI → ML → Int32 → Int32 → Int32 → Int32 → Int32 → Int32 → Int64 → Int32 → MI → ML → Nat)
    (v0 : ∀ (σ0 : MI) (τ0 : ML) (a0 : Int32) (a1 : Int32) (a2 : Int32), pre σ0 τ0 a0 a1 a2 → s_Planner_digits_0 P_Planner_digitShift Q_Planner_digitShift σ0 τ0 a0 a1 a2 (fun z0 z1 z2 z3 z4 σ9 τ9 => I5 σ0 τ0 a0 a1 a2 z0 z1 z2 z3 z4 σ9 τ9) (post σ0 τ0 a0 a1 a2))
    (v5 : ∀ (σ0 : MI) (τ0 : ML) (a0 : Int32) (a1 : Int32) (a2 : Int32) (x0 : Int32) (x1 : Int32) (x2 : Int32) (x3 : Int64) (x5 : Int32) (σ : MI) (τ : ML), I5 σ0 τ0 a0 a1 a2 x0 x1 x2 x3 x5 σ τ → s_Planner_digits_5 P_Planner_digitShift Q_Planner_digitShift σ τ x0 x1 x2 x3 x5 (fun z0 z1 z2 z3 z4 σ9 τ9 => I5 σ0 τ0 a0 a1 a2 z0 z1 z2 z3 z4 σ9 τ9 ∧ m5 σ0 τ0 a0 a1 a2 z0 z1 z2 z3 z4 σ9 τ9 < m5 σ0 τ0 a0 a1 a2 x0 x1 x2 x3 x5 σ τ) (post σ0 τ0 a0 a1 a2)) :
    ∀ (sz : Nat) (σ0 : MI) (τ0 : ML) (a0 : Int32) (a1 : Int32) (a2 : Int32), pre σ0 τ0 a0 a1 a2 → gMl l D (xw ad ci cl) (xt ci cl) (xa ad) y_Planner_digits w_Planner_digits rm_Planner_digits [.int a0, .int a1, .int a2] sz σ0 τ0 (post σ0 τ0 a0 a1 a2) := by
  intro sz σ0 τ0 a0 a1 a2 hpre
  refine gk_ofWl (cc := b_Planner_digits) (maxL := 6) (ret := (some .long)) (by decide) rfl xa_ok (Nat.le_of_ble_eq_true rfl) ?_
  intro p e s m below meth c ls hx hb hr hlocks hml hown hts hK hP hD hS hl
  have hl : lv_has ls 6 [(0, .int a0), (1, .int a1), (2, .int a2)] := hl
  have hown : s.vm.findClass R_Planner = some m.cls := hown
  have hL : ∀ n : Nat, (∀ (x0 : Int32) (x1 : Int32) (x2 : Int32) (x3 : Int64) (x5 : Int32) (σ : MI) (τ : ML) (H : Heap) (locs : List Loc) (ls : Array Slot), m5 σ0 τ0 a0 a1 a2 x0 x1 x2 x3 x5 σ τ < n → I5 σ0 τ0 a0 a1 a2 x0 x1 x2 x3 x5 σ τ → va_P D classes ((xw ad ci cl) σ τ) H → va_D (gA (xa ad) s.heap.size) ((xw ad ci cl) σ τ) → va_S (gA (xa ad) s.heap.size) s.heap H locs → lv_has ls 6 [(0, .int x0), (1, .int x1), (2, .int x2), (3, .long x3), (5, .int x5)] → W p l e rm_Planner_digits s m [.int a0, .int a1, .int a2].toArray below meth c H locs 0 0 (gQl D (xw ad ci cl) (xt ci cl) (xa ad) below [.int a0, .int a1, .int a2] s (post σ0 τ0 a0 a1 a2)) (F0 m 5 ls [])) := by
    intro n
    induction n with
    | zero => exact fun _ _ _ _ _ _ _ _ _ _ hn => absurd hn (Nat.not_lt_zero _)
    | succ n ih =>
      · intro x0 x1 x2 x3 x5 σ τ H locs ls hn hI hP hD hS hl
        have hv := v5 σ0 τ0 a0 a1 a2 x0 x1 x2 x3 x5 σ τ hI
        unfold s_Planner_digits_5 at hv
        refine lv_iload hx hb d_Planner_digits_5 (lv_at hl 4 rfl) ?_
        refine lv_iload_n hx hb d_Planner_digits_7 rfl (lv_at hl 1 rfl) ?_
        refine lv_icmp_ge (tgt := 37) hx hb d_Planner_digits_8 (by decide) (fun hc => ?_) (fun hc => ?_)
        · replace hv := hv.1 hc
          refine lv_lload_n hx hb d_Planner_digits_37 rfl (lv_at hl 3 rfl) ?_
          exact gk_lret hx hb hr hlocks hK hP hD hS hv d_Planner_digits_38
        · replace hv := hv.2 hc
          refine lv_iload_n hx hb d_Planner_digits_11 rfl (lv_at hl 0 rfl) ?_
          refine lv_iload hx hb d_Planner_digits_12 (lv_at hl 4 rfl) ?_
          refine lv_ishr hx hb d_Planner_digits_14 ?_
          refine lv_iconst (v := 1) hx hb d_Planner_digits_15 (by decide) ?_
          refine lv_iand hx hb d_Planner_digits_16 ?_
          refine lv_if_eq (tgt := 31) hx hb d_Planner_digits_17 (by decide) (fun hc => ?_) (fun hc => ?_)
          · replace hv := hv.1 hc
            obtain ⟨y31, ey31⟩ : ∃ z : Int32, z = x5 + 1 := ⟨_, rfl⟩
            replace hv := hv y31 ey31
            refine lv_iinc (v := y31) (lv' := [(5, .int y31), (0, .int x0), (1, .int x1), (2, .int x2), (3, .long x3)]) hx hb d_Planner_digits_31 hl (k := 4) rfl (by rw [ey31]; rfl) (by decide) rfl (fun ls hl => ?_)
            refine lv_goto (tgt := 5) hx hb d_Planner_digits_34 (by decide) ?_
            obtain ⟨hI, hm⟩ := hv
            exact ih x0 x1 x2 x3 y31 σ τ _ _ _ (Nat.lt_of_lt_of_le hm (Nat.le_of_lt_succ hn)) hI hP hD hS (lv_sub hl [1, 2, 3, 4, 0] rfl)
          · replace hv := hv.2 hc
            refine lv_lload_n hx hb d_Planner_digits_20 rfl (lv_at hl 3 rfl) ?_
            refine lv_iload_n hx hb d_Planner_digits_21 rfl (lv_at hl 2 rfl) ?_
            refine lv_i2l hx hb d_Planner_digits_22 rfl ?_
            refine lv_iload hx hb d_Planner_digits_23 (lv_at hl 4 rfl) ?_
            obtain ⟨hg, hv⟩ := hv
            refine gk_callSi (As := [.int x5]) (rest := [.long (Int32.toInt64 x2), .long x3]) ⟨hx, hb, hml, hown, hts⟩ (h_Planner_digitShift _ σ τ x5 hg) (gk_cwS 1 hts t_w76 rfl rfl rfl (hts _ t_w73) (hts _ t_w74) (hts _ t_w75) (by decide +kernel) ⟨Nat.le_of_ble_eq_true rfl, Nat.le_of_ble_eq_true rfl⟩) hK hP hD hS rfl hl.1 rfl (lv_room (Nat.le_of_ble_eq_true rfl)) d_Planner_digits_25 ⟨Nat.zero_le _, Nat.zero_le _⟩ ?_
            intro r25 s25 t25 H locs hw hP hD hS
            replace hv := hv r25 s25 t25 hw
            refine lv_lshl hx hb d_Planner_digits_28 rfl ?_
            refine lv_ladd hx hb d_Planner_digits_29 ?_
            refine lv_topl (fun y30 ey30 => ?_)
            replace hv := hv y30 ey30
            refine lv_lstore_n (lv' := [(3, .long y30), (0, .int x0), (1, .int x1), (2, .int x2), (5, .int x5)]) hx hb d_Planner_digits_30 rfl hl (by decide) rfl (fun ls hl => ?_)
            obtain ⟨y31, ey31⟩ : ∃ z : Int32, z = x5 + 1 := ⟨_, rfl⟩
            replace hv := hv y31 ey31
            refine lv_iinc (v := y31) (lv' := [(5, .int y31), (3, .long y30), (0, .int x0), (1, .int x1), (2, .int x2)]) hx hb d_Planner_digits_31 hl (k := 4) rfl (by rw [ey31]; rfl) (by decide) rfl (fun ls hl => ?_)
            refine lv_goto (tgt := 5) hx hb d_Planner_digits_34 (by decide) ?_
            obtain ⟨hI, hm⟩ := hv
            exact ih x0 x1 x2 y30 y31 s25 t25 _ _ _ (Nat.lt_of_lt_of_le hm (Nat.le_of_lt_succ hn)) hI hP hD hS (lv_sub hl [2, 3, 4, 1, 0] rfl)
  have hv := v0 σ0 τ0 a0 a1 a2 hpre
  unfold s_Planner_digits_0 at hv
  refine lv_lconst (v := 0) hx hb d_Planner_digits_0 (by decide) ?_
  refine lv_lstore_n (lv' := [(3, .long 0), (0, .int a0), (1, .int a1), (2, .int a2)]) hx hb d_Planner_digits_1 rfl hl (by decide) rfl (fun ls hl => ?_)
  refine lv_iconst (v := 0) hx hb d_Planner_digits_2 (by decide) ?_
  refine lv_istore (lv' := [(5, .int 0), (3, .long 0), (0, .int a0), (1, .int a1), (2, .int a2)]) hx hb d_Planner_digits_3 hl (by decide) rfl (fun ls hl => ?_)
  exact (hL _) a0 a1 a2 0 0 σ0 τ0 _ _ _ (Nat.lt_succ_self _) hv hP hD hS (lv_sub hl [2, 3, 4, 1, 0] rfl)
theorem d_Planner_giveToNobody_0 : decode b_Planner_giveToNobody 0 = .ok (.iconst 1, 1) := by decide +kernel
theorem d_Planner_giveToNobody_1 : decode b_Planner_giveToNobody 1 = .ok (.iload_n 1, 1) := by decide +kernel
theorem d_Planner_giveToNobody_2 : decode b_Planner_giveToNobody 2 = .ok (.ishl, 1) := by decide +kernel
theorem d_Planner_giveToNobody_3 : decode b_Planner_giveToNobody 3 = .ok (.istore_n 2, 1) := by decide +kernel
theorem d_Planner_giveToNobody_4 : decode b_Planner_giveToNobody 4 = .ok (.iconst 0, 1) := by decide +kernel
theorem d_Planner_giveToNobody_5 : decode b_Planner_giveToNobody 5 = .ok (.istore_n 3, 1) := by decide +kernel
theorem d_Planner_giveToNobody_6 : decode b_Planner_giveToNobody 6 = .ok (.iload_n 3, 1) := by decide +kernel
theorem d_Planner_giveToNobody_7 : decode b_Planner_giveToNobody 7 = .ok (.iload_n 2, 1) := by decide +kernel
theorem d_Planner_giveToNobody_8 : decode b_Planner_giveToNobody 8 = .ok (.if_icmp .ge 34, 3) := by decide +kernel
theorem d_Planner_giveToNobody_11 : decode b_Planner_giveToNobody 11 = .ok (.iload_n 3, 1) := by decide +kernel
theorem d_Planner_giveToNobody_12 : decode b_Planner_giveToNobody 12 = .ok (.invokestatic 55, 3) := by decide +kernel
theorem d_Planner_giveToNobody_15 : decode b_Planner_giveToNobody 15 = .ok (.i2l, 1) := by decide +kernel
theorem d_Planner_giveToNobody_16 : decode b_Planner_giveToNobody 16 = .ok (.bipush 40, 2) := by decide +kernel
theorem d_Planner_giveToNobody_18 : decode b_Planner_giveToNobody 18 = .ok (.lshl, 1) := by decide +kernel
theorem d_Planner_giveToNobody_19 : decode b_Planner_giveToNobody 19 = .ok (.lstore 4, 2) := by decide +kernel
theorem d_Planner_giveToNobody_21 : decode b_Planner_giveToNobody 21 = .ok (.aload_n 0, 1) := by decide +kernel
theorem d_Planner_giveToNobody_22 : decode b_Planner_giveToNobody 22 = .ok (.getfield 11, 3) := by decide +kernel
theorem d_Planner_giveToNobody_25 : decode b_Planner_giveToNobody 25 = .ok (.iload_n 3, 1) := by decide +kernel
theorem d_Planner_giveToNobody_26 : decode b_Planner_giveToNobody 26 = .ok (.lload 4, 2) := by decide +kernel
theorem d_Planner_giveToNobody_28 : decode b_Planner_giveToNobody 28 = .ok (.iload_n 3, 1) := by decide +kernel
theorem d_Planner_giveToNobody_29 : decode b_Planner_giveToNobody 29 = .ok (.iload_n 1, 1) := by decide +kernel
theorem d_Planner_giveToNobody_30 : decode b_Planner_giveToNobody 30 = .ok (.iconst 4, 1) := by decide +kernel
theorem d_Planner_giveToNobody_31 : decode b_Planner_giveToNobody 31 = .ok (.invokestatic 89, 3) := by decide +kernel
theorem d_Planner_giveToNobody_34 : decode b_Planner_giveToNobody 34 = .ok (.ladd, 1) := by decide +kernel
theorem d_Planner_giveToNobody_35 : decode b_Planner_giveToNobody 35 = .ok (.lastore, 1) := by decide +kernel
theorem d_Planner_giveToNobody_36 : decode b_Planner_giveToNobody 36 = .ok (.iinc 3 1, 3) := by decide +kernel
theorem d_Planner_giveToNobody_39 : decode b_Planner_giveToNobody 39 = .ok (.goto (-33), 3) := by decide +kernel
theorem d_Planner_giveToNobody_42 : decode b_Planner_giveToNobody 42 = .ok (.return_, 1) := by decide +kernel
def s_Planner_giveToNobody_0 (P_Integer_bitCount : MI → ML → Int32 → Prop) (Q_Integer_bitCount : MI → ML → Int32 → Int32 → MI → ML → Prop) (P_Planner_digits : MI → ML → Int32 → Int32 → Int32 → Prop) (Q_Planner_digits : MI → ML → Int32 → Int32 → Int32 → Int64 → MI → ML → Prop) (σ : MI) (τ : ML) (a1 : Int32) (K6 : Int32 → Int32 → Int32 → MI → ML → Prop) (R : MI → ML → Prop) : Prop :=
  ∀ y3 : Int32, y3 = 1 <<< (a1 &&& 31) → (K6 a1 y3 0 σ τ)
def s_Planner_giveToNobody_6 (P_Integer_bitCount : MI → ML → Int32 → Prop) (Q_Integer_bitCount : MI → ML → Int32 → Int32 → MI → ML → Prop) (P_Planner_digits : MI → ML → Int32 → Int32 → Int32 → Prop) (Q_Planner_digits : MI → ML → Int32 → Int32 → Int32 → Int64 → MI → ML → Prop) (σ : MI) (τ : ML) (x1 : Int32) (x2 : Int32) (x3 : Int32) (K6 : Int32 → Int32 → Int32 → MI → ML → Prop) (R : MI → ML → Prop) : Prop :=
  (x2 ≤ x3 →
  (R σ τ)) ∧
  (¬ x2 ≤ x3 →
  (P_Integer_bitCount σ τ x3 ∧ ∀ (r12 : Int32) (s12 : MI) (t12 : ML), Q_Integer_bitCount σ τ x3 r12 s12 t12 → (∀ y19 : Int64, y19 = (Int32.toInt64 r12) <<< ((Int32.toInt64 40) &&& 63) → (P_Planner_digits s12 t12 x3 x1 4 ∧ ∀ (r31 : Int64) (s31 : MI) (t31 : ML), Q_Planner_digits s12 t12 x3 x1 4 r31 s31 t31 → (vp_in x3 128 ∧ (∀ t35 : ML, t35 = sl2 t31 20 (Int32.toNatClampNeg x3) (y19 + r31) → (∀ y36 : Int32, y36 = x3 + 1 → (K6 x1 x2 y36 s31 t35))))))))
set_option maxHeartbeats 4000000 in
set_option maxRecDepth 100000 in
theorem k_Planner_giveToNobody (l : Launch) (D : va_G) (ad : Nat → Nat) (ci cl : ClassId)
    (pre : MI → ML → Int32 → Prop) (post : MI → ML → Int32 → MI → ML → Prop) (P_Integer_bitCount : MI → ML → Int32 → Prop) (Q_Integer_bitCount : MI → ML → Int32 → Int32 → MI → ML → Prop) (P_Planner_digits : MI → ML → Int32 → Int32 → Int32 → Prop) (Q_Planner_digits : MI → ML → Int32 → Int32 → Int32 → Int64 → MI → ML → Prop)
    (h_Integer_bitCount : ∀ (sz : Nat) (σ : MI) (τ : ML) (b0 : Int32), P_Integer_bitCount σ τ b0 → gMi l D (xw ad ci cl) (xt ci cl) (xa ad) y_Integer_bitCount w_Integer_bitCount rm_Integer_bitCount [.int b0] sz σ τ (Q_Integer_bitCount σ τ b0))
    (h_Planner_digits : ∀ (sz : Nat) (σ : MI) (τ : ML) (b0 : Int32) (b1 : Int32) (b2 : Int32), P_Planner_digits σ τ b0 b1 b2 → gMl l D (xw ad ci cl) (xt ci cl) (xa ad) y_Planner_digits w_Planner_digits rm_Planner_digits [.int b0, .int b1, .int b2] sz σ τ (Q_Planner_digits σ τ b0 b1 b2))
    (I6 : MI → ML → Int32 → Int32 → Int32 → Int32 → MI → ML → Prop) (m6 : MI → ML → Int32 → Int32 → Int32 → Int32 → MI → ML → Nat)
    (v0 : ∀ (σ0 : MI) (τ0 : ML) (a1 : Int32), pre σ0 τ0 a1 → s_Planner_giveToNobody_0 P_Integer_bitCount Q_Integer_bitCount P_Planner_digits Q_Planner_digits σ0 τ0 a1 (fun z0 z1 z2 σ9 τ9 => I6 σ0 τ0 a1 z0 z1 z2 σ9 τ9) (post σ0 τ0 a1))
    (v6 : ∀ (σ0 : MI) (τ0 : ML) (a1 : Int32) (x1 : Int32) (x2 : Int32) (x3 : Int32) (σ : MI) (τ : ML), I6 σ0 τ0 a1 x1 x2 x3 σ τ → s_Planner_giveToNobody_6 P_Integer_bitCount Q_Integer_bitCount P_Planner_digits Q_Planner_digits σ τ x1 x2 x3 (fun z0 z1 z2 σ9 τ9 => I6 σ0 τ0 a1 z0 z1 z2 σ9 τ9 ∧ m6 σ0 τ0 a1 z0 z1 z2 σ9 τ9 < m6 σ0 τ0 a1 x1 x2 x3 σ τ) (post σ0 τ0 a1)) :
    ∀ (sz : Nat) (σ0 : MI) (τ0 : ML) (a1 : Int32), pre σ0 τ0 a1 → gMv l D (xw ad ci cl) (xt ci cl) (xa ad) y_Planner_giveToNobody w_Planner_giveToNobody rm_Planner_giveToNobody [.ref (ad 19), .int a1] sz σ0 τ0 (post σ0 τ0 a1) := by
  intro sz σ0 τ0 a1 hpre
  refine gk_ofWv (cc := b_Planner_giveToNobody) (maxL := 6) (ret := none) (by decide) rfl xa_ok (Nat.le_of_ble_eq_true rfl) ?_
  intro p e s m below meth c ls hx hb hr hlocks hml hown hts hK hP hD hS hl
  have hl : lv_has ls 6 [(0, .ref (ad 19)), (1, .int a1)] := hl
  have hown : s.vm.findClass R_Planner = some m.cls := hown
  have hL : ∀ n : Nat, (∀ (x1 : Int32) (x2 : Int32) (x3 : Int32) (σ : MI) (τ : ML) (H : Heap) (locs : List Loc) (ls : Array Slot), m6 σ0 τ0 a1 x1 x2 x3 σ τ < n → I6 σ0 τ0 a1 x1 x2 x3 σ τ → va_P D classes ((xw ad ci cl) σ τ) H → va_D (gA (xa ad) s.heap.size) ((xw ad ci cl) σ τ) → va_S (gA (xa ad) s.heap.size) s.heap H locs → lv_has ls 6 [(0, .ref (ad 19)), (1, .int x1), (2, .int x2), (3, .int x3)] → W p l e rm_Planner_giveToNobody s m [.ref (ad 19), .int a1].toArray below meth c H locs 0 0 (gQv D (xw ad ci cl) (xt ci cl) (xa ad) below [.ref (ad 19), .int a1] s (post σ0 τ0 a1)) (F0 m 6 ls [])) := by
    intro n
    induction n with
    | zero => exact fun _ _ _ _ _ _ _ _ hn => absurd hn (Nat.not_lt_zero _)
    | succ n ih =>
      · intro x1 x2 x3 σ τ H locs ls hn hI hP hD hS hl
        have hv := v6 σ0 τ0 a1 x1 x2 x3 σ τ hI
        unfold s_Planner_giveToNobody_6 at hv
        refine lv_iload_n hx hb d_Planner_giveToNobody_6 rfl (lv_at hl 3 rfl) ?_
        refine lv_iload_n hx hb d_Planner_giveToNobody_7 rfl (lv_at hl 2 rfl) ?_
        refine lv_icmp_ge (tgt := 42) hx hb d_Planner_giveToNobody_8 (by decide) (fun hc => ?_) (fun hc => ?_)
        · replace hv := hv.1 hc
          exact gk_vret hx hb hr hlocks hK hP hD hS hv d_Planner_giveToNobody_42
        · replace hv := hv.2 hc
          refine lv_iload_n hx hb d_Planner_giveToNobody_11 rfl (lv_at hl 3 rfl) ?_
          obtain ⟨hg, hv⟩ := hv
          refine gk_callSi (As := [.int x3]) (rest := []) ⟨hx, hb, hml, hown, hts⟩ (h_Integer_bitCount _ σ τ x3 hg) (gk_cwS 1 hts t_w80 rfl rfl rfl (hts _ t_w77) (hts _ t_w78) (hts _ t_w79) (by decide +kernel) ⟨Nat.le_of_ble_eq_true rfl, Nat.le_of_ble_eq_true rfl⟩) hK hP hD hS rfl hl.1 rfl (lv_room (Nat.le_of_ble_eq_true rfl)) d_Planner_giveToNobody_12 ⟨Nat.zero_le _, Nat.zero_le _⟩ ?_
          intro r12 s12 t12 H locs hw hP hD hS
          replace hv := hv r12 s12 t12 hw
          refine lv_i2l hx hb d_Planner_giveToNobody_15 rfl ?_
          refine lv_bipush (v := 40) hx hb d_Planner_giveToNobody_16 (by decide) ?_
          refine lv_lshl hx hb d_Planner_giveToNobody_18 rfl ?_
          refine lv_topl (fun y19 ey19 => ?_)
          replace hv := hv y19 ey19
          refine lv_lstore (lv' := [(4, .long y19), (0, .ref (ad 19)), (1, .int x1), (2, .int x2), (3, .int x3)]) hx hb d_Planner_giveToNobody_19 hl (by decide) rfl (fun ls hl => ?_)
          refine lv_aload_n hx hb d_Planner_giveToNobody_21 rfl (lv_at hl 1 rfl) ?_
          refine va_get (D := D) (ci := 3) (v := .ref (ad 20)) (C := R_Planner) (T := F_Planner) (N := 2) hx hb hts iw_Planner hown hK hP 19 rfl rfl 0 (by decide) (hts _ t_w81) (fun _ h9 => h9) rfl d_Planner_giveToNobody_22 ?_
          refine lv_iload_n hx hb d_Planner_giveToNobody_25 rfl (lv_at hl 4 rfl) ?_
          refine lv_lload hx hb d_Planner_giveToNobody_26 (lv_at hl 0 rfl) ?_
          refine lv_iload_n hx hb d_Planner_giveToNobody_28 rfl (lv_at hl 4 rfl) ?_
          refine lv_iload_n hx hb d_Planner_giveToNobody_29 rfl (lv_at hl 2 rfl) ?_
          refine lv_iconst (v := 4) hx hb d_Planner_giveToNobody_30 (by decide) ?_
          obtain ⟨hg, hv⟩ := hv
          refine gk_callSl (As := [.int x3, .int x1, .int 4]) (rest := [.long y19, .int x3, .ref (ad 20)]) ⟨hx, hb, hml, hown, hts⟩ (h_Planner_digits _ s12 t12 x3 x1 4 hg) (gk_cwS 3 hts t_w84 rfl rfl rfl (hts _ t_w82) (hts _ t_w83) (hts _ t_w75) (by decide +kernel) ⟨Nat.le_of_ble_eq_true rfl, Nat.le_of_ble_eq_true rfl⟩) hK hP hD hS rfl hl.1 rfl (lv_room (Nat.le_of_ble_eq_true rfl)) d_Planner_giveToNobody_31 ⟨Nat.zero_le _, Nat.zero_le _⟩ ?_
          intro r31 s31 t31 H locs hw hP hD hS
          replace hv := hv r31 s31 t31 hw
          refine lv_ladd hx hb d_Planner_giveToNobody_34 ?_
          obtain ⟨hi, hv⟩ := hv
          refine va_last hx hb hK hP hD hS 20 1 rfl rfl hi d_Planner_giveToNobody_35 (fun H locs hP hD hS => ?_)
          rw [xa_20] at hP hD
          obtain ⟨t35, et35⟩ : ∃ z : ML, z = sl2 t31 20 (Int32.toNatClampNeg x3) (y19 + r31) := ⟨_, rfl⟩
          rw [← et35] at hP hD
          replace hv := hv t35 et35
          obtain ⟨y36, ey36⟩ : ∃ z : Int32, z = x3 + 1 := ⟨_, rfl⟩
          replace hv := hv y36 ey36
          refine lv_iinc (v := y36) (lv' := [(3, .int y36), (4, .long y19), (0, .ref (ad 19)), (1, .int x1), (2, .int x2)]) hx hb d_Planner_giveToNobody_36 hl (k := 4) rfl (by rw [ey36]; rfl) (by decide) rfl (fun ls hl => ?_)
          refine lv_goto (tgt := 6) hx hb d_Planner_giveToNobody_39 (by decide) ?_
          obtain ⟨hI, hm⟩ := hv
          exact ih x1 x2 y36 s31 t35 _ _ _ (Nat.lt_of_lt_of_le hm (Nat.le_of_lt_succ hn)) hI hP hD hS (lv_sub hl [2, 3, 4, 0] rfl)
  have hv := v0 σ0 τ0 a1 hpre
  unfold s_Planner_giveToNobody_0 at hv
  refine lv_iconst (v := 1) hx hb d_Planner_giveToNobody_0 (by decide) ?_
  refine lv_iload_n hx hb d_Planner_giveToNobody_1 rfl (lv_at hl 1 rfl) ?_
  refine lv_ishl hx hb d_Planner_giveToNobody_2 ?_
  refine lv_topi (fun y3 ey3 => ?_)
  replace hv := hv y3 ey3
  refine lv_istore_n (lv' := [(2, .int y3), (0, .ref (ad 19)), (1, .int a1)]) hx hb d_Planner_giveToNobody_3 rfl hl (by decide) rfl (fun ls hl => ?_)
  refine lv_iconst (v := 0) hx hb d_Planner_giveToNobody_4 (by decide) ?_
  refine lv_istore_n (lv' := [(3, .int 0), (2, .int y3), (0, .ref (ad 19)), (1, .int a1)]) hx hb d_Planner_giveToNobody_5 rfl hl (by decide) rfl (fun ls hl => ?_)
  exact (hL _) a1 y3 0 σ0 τ0 _ _ _ (Nat.lt_succ_self _) hv hP hD hS (lv_sub hl [2, 3, 1, 0] rfl)
theorem d_Plan_isBarred_0 : decode b_Plan_isBarred 0 = .ok (.aload_n 0, 1) := by decide +kernel
theorem d_Plan_isBarred_1 : decode b_Plan_isBarred 1 = .ok (.getfield 15, 3) := by decide +kernel
theorem d_Plan_isBarred_4 : decode b_Plan_isBarred 4 = .ok (.iload_n 1, 1) := by decide +kernel
theorem d_Plan_isBarred_5 : decode b_Plan_isBarred 5 = .ok (.ishr, 1) := by decide +kernel
theorem d_Plan_isBarred_6 : decode b_Plan_isBarred 6 = .ok (.iconst 1, 1) := by decide +kernel
theorem d_Plan_isBarred_7 : decode b_Plan_isBarred 7 = .ok (.iand, 1) := by decide +kernel
theorem d_Plan_isBarred_8 : decode b_Plan_isBarred 8 = .ok (.ifCond .eq 7, 3) := by decide +kernel
theorem d_Plan_isBarred_11 : decode b_Plan_isBarred 11 = .ok (.iconst 1, 1) := by decide +kernel
theorem d_Plan_isBarred_12 : decode b_Plan_isBarred 12 = .ok (.goto 4, 3) := by decide +kernel
theorem d_Plan_isBarred_15 : decode b_Plan_isBarred 15 = .ok (.iconst 0, 1) := by decide +kernel
theorem d_Plan_isBarred_16 : decode b_Plan_isBarred 16 = .ok (.ireturn, 1) := by decide +kernel
def s_Plan_isBarred_0 (σ : MI) (τ : ML) (a1 : Int32) (R : Int32 → MI → ML → Prop) : Prop :=
  ((((σ 22 1) >>> (a1 &&& 31)) &&& 1) = 0 →
  ((0 = (0 : Int32) ∨ 0 = (1 : Int32)) ∧ R 0 σ τ)) ∧
  (¬ (((σ 22 1) >>> (a1 &&& 31)) &&& 1) = 0 →
  ((1 = (0 : Int32) ∨ 1 = (1 : Int32)) ∧ R 1 σ τ))
set_option maxHeartbeats 4000000 in
set_option maxRecDepth 100000 in
theorem k_Plan_isBarred (l : Launch) (D : va_G) (ad : Nat → Nat) (ci cl : ClassId)
    (pre : MI → ML → Int32 → Prop) (post : MI → ML → Int32 → Int32 → MI → ML → Prop)
    (v0 : ∀ (σ0 : MI) (τ0 : ML) (a1 : Int32), pre σ0 τ0 a1 → s_Plan_isBarred_0 σ0 τ0 a1 (post σ0 τ0 a1)) :
    ∀ (sz : Nat) (σ0 : MI) (τ0 : ML) (a1 : Int32), pre σ0 τ0 a1 → gMi l D (xw ad ci cl) (xt ci cl) (xa ad) y_Plan_isBarred w_Plan_isBarred rm_Plan_isBarred [.ref (ad 22), .int a1] sz σ0 τ0 (post σ0 τ0 a1) := by
  intro sz σ0 τ0 a1 hpre
  refine gk_ofWi (cc := b_Plan_isBarred) (maxL := 2) (ret := (some .boolean)) (by decide) rfl xa_ok (Nat.le_of_ble_eq_true rfl) ?_
  intro p e s m below meth c ls hx hb hr hlocks hml hown hts hK hP hD hS hl
  have hl : lv_has ls 2 [(0, .ref (ad 22)), (1, .int a1)] := hl
  have hown : s.vm.findClass R_Plan = some m.cls := hown
  have hv := v0 σ0 τ0 a1 hpre
  unfold s_Plan_isBarred_0 at hv
  refine lv_aload_n hx hb d_Plan_isBarred_0 rfl (lv_at hl 0 rfl) ?_
  refine va_get (D := D) (ci := 2) (v := .int (σ0 22 1)) (C := R_Plan) (T := F_Plan) (N := 9) hx hb hts iw_Plan hown hK hP 22 rfl rfl 1 (by decide) (hts _ t_w85) (fun _ h9 => h9) rfl d_Plan_isBarred_1 ?_
  refine lv_iload_n hx hb d_Plan_isBarred_4 rfl (lv_at hl 1 rfl) ?_
  refine lv_ishr hx hb d_Plan_isBarred_5 ?_
  refine lv_iconst (v := 1) hx hb d_Plan_isBarred_6 (by decide) ?_
  refine lv_iand hx hb d_Plan_isBarred_7 ?_
  refine lv_if_eq (tgt := 15) hx hb d_Plan_isBarred_8 (by decide) (fun hc => ?_) (fun hc => ?_)
  · replace hv := hv.1 hc
    refine lv_iconst (v := 0) hx hb d_Plan_isBarred_15 (by decide) ?_
    obtain ⟨hz, hv⟩ := hv
    exact gk_zret hx hb hr hlocks (gk_nz hz) hK hP hD hS hv d_Plan_isBarred_16
  · replace hv := hv.2 hc
    refine lv_iconst (v := 1) hx hb d_Plan_isBarred_11 (by decide) ?_
    refine lv_goto (tgt := 16) hx hb d_Plan_isBarred_12 (by decide) ?_
    obtain ⟨hz, hv⟩ := hv
    exact gk_zret hx hb hr hlocks (gk_nz hz) hK hP hD hS hv d_Plan_isBarred_16
theorem d_Ways_between_0 : decode b_Ways_between 0 = .ok (.aload_n 0, 1) := by decide +kernel
theorem d_Ways_between_1 : decode b_Ways_between 1 = .ok (.getfield 15, 3) := by decide +kernel
theorem d_Ways_between_4 : decode b_Ways_between 4 = .ok (.iload_n 1, 1) := by decide +kernel
theorem d_Ways_between_5 : decode b_Ways_between 5 = .ok (.iconst 5, 1) := by decide +kernel
theorem d_Ways_between_6 : decode b_Ways_between 6 = .ok (.imul, 1) := by decide +kernel
theorem d_Ways_between_7 : decode b_Ways_between 7 = .ok (.iload_n 2, 1) := by decide +kernel
theorem d_Ways_between_8 : decode b_Ways_between 8 = .ok (.iadd, 1) := by decide +kernel
theorem d_Ways_between_9 : decode b_Ways_between 9 = .ok (.iaload, 1) := by decide +kernel
theorem d_Ways_between_10 : decode b_Ways_between 10 = .ok (.ireturn, 1) := by decide +kernel
def s_Ways_between_0 (σ : MI) (τ : ML) (a1 : Int32) (a2 : Int32) (R : Int32 → MI → ML → Prop) : Prop :=
  vp_in ((a1 * 5) + a2) 25 ∧ (R (σ 18 (Int32.toNatClampNeg ((a1 * 5) + a2))) σ τ)
set_option maxHeartbeats 4000000 in
set_option maxRecDepth 100000 in
theorem k_Ways_between (l : Launch) (D : va_G) (ad : Nat → Nat) (ci cl : ClassId)
    (pre : MI → ML → Int32 → Int32 → Prop) (post : MI → ML → Int32 → Int32 → Int32 → MI → ML → Prop)
    (v0 : ∀ (σ0 : MI) (τ0 : ML) (a1 : Int32) (a2 : Int32), pre σ0 τ0 a1 a2 → s_Ways_between_0 σ0 τ0 a1 a2 (post σ0 τ0 a1 a2)) :
    ∀ (sz : Nat) (σ0 : MI) (τ0 : ML) (a1 : Int32) (a2 : Int32), pre σ0 τ0 a1 a2 → gMi l D (xw ad ci cl) (xt ci cl) (xa ad) y_Ways_between w_Ways_between rm_Ways_between [.ref (ad 17), .int a1, .int a2] sz σ0 τ0 (post σ0 τ0 a1 a2) := by
  intro sz σ0 τ0 a1 a2 hpre
  refine gk_ofWi (cc := b_Ways_between) (maxL := 3) (ret := (some .int)) (by decide) rfl xa_ok (Nat.le_of_ble_eq_true rfl) ?_
  intro p e s m below meth c ls hx hb hr hlocks hml hown hts hK hP hD hS hl
  have hl : lv_has ls 3 [(0, .ref (ad 17)), (1, .int a1), (2, .int a2)] := hl
  have hown : s.vm.findClass R_Ways = some m.cls := hown
  have hv := v0 σ0 τ0 a1 a2 hpre
  unfold s_Ways_between_0 at hv
  refine lv_aload_n hx hb d_Ways_between_0 rfl (lv_at hl 0 rfl) ?_
  refine va_get (D := D) (ci := 5) (v := .ref (ad 18)) (C := R_Ways) (T := F_Ways) (N := 2) hx hb hts iw_Ways hown hK hP 17 rfl rfl 1 (by decide) (hts _ t_w52) (fun _ h9 => h9) rfl d_Ways_between_1 ?_
  refine lv_iload_n hx hb d_Ways_between_4 rfl (lv_at hl 1 rfl) ?_
  refine lv_iconst (v := 5) hx hb d_Ways_between_5 (by decide) ?_
  refine lv_imul hx hb d_Ways_between_6 ?_
  refine lv_iload_n hx hb d_Ways_between_7 rfl (lv_at hl 2 rfl) ?_
  refine lv_iadd hx hb d_Ways_between_8 ?_
  obtain ⟨hi, hv⟩ := hv
  refine va_iald hx hb hK hP 18 0 rfl rfl hi d_Ways_between_9 ?_
  exact gk_iret hx hb hr hlocks hK hP hD hS hv d_Ways_between_10
theorem d_People_isFit_0 : decode b_People_isFit 0 = .ok (.aload_n 0, 1) := by decide +kernel
theorem d_People_isFit_1 : decode b_People_isFit 1 = .ok (.getfield 15, 3) := by decide +kernel
theorem d_People_isFit_4 : decode b_People_isFit 4 = .ok (.iload_n 1, 1) := by decide +kernel
theorem d_People_isFit_5 : decode b_People_isFit 5 = .ok (.iaload, 1) := by decide +kernel
theorem d_People_isFit_6 : decode b_People_isFit 6 = .ok (.aload_n 3, 1) := by decide +kernel
theorem d_People_isFit_7 : decode b_People_isFit 7 = .ok (.getfield 41, 3) := by decide +kernel
theorem d_People_isFit_10 : decode b_People_isFit 10 = .ok (.iload_n 2, 1) := by decide +kernel
theorem d_People_isFit_11 : decode b_People_isFit 11 = .ok (.iaload, 1) := by decide +kernel
theorem d_People_isFit_12 : decode b_People_isFit 12 = .ok (.if_icmp .lt 18, 3) := by decide +kernel
theorem d_People_isFit_15 : decode b_People_isFit 15 = .ok (.aload_n 3, 1) := by decide +kernel
theorem d_People_isFit_16 : decode b_People_isFit 16 = .ok (.getfield 42, 3) := by decide +kernel
theorem d_People_isFit_19 : decode b_People_isFit 19 = .ok (.iload_n 2, 1) := by decide +kernel
theorem d_People_isFit_20 : decode b_People_isFit 20 = .ok (.iaload, 1) := by decide +kernel
theorem d_People_isFit_21 : decode b_People_isFit 21 = .ok (.aload_n 0, 1) := by decide +kernel
theorem d_People_isFit_22 : decode b_People_isFit 22 = .ok (.getfield 22, 3) := by decide +kernel
theorem d_People_isFit_25 : decode b_People_isFit 25 = .ok (.iload_n 1, 1) := by decide +kernel
theorem d_People_isFit_26 : decode b_People_isFit 26 = .ok (.iaload, 1) := by decide +kernel
theorem d_People_isFit_27 : decode b_People_isFit 27 = .ok (.if_icmp .le 5, 3) := by decide +kernel
theorem d_People_isFit_30 : decode b_People_isFit 30 = .ok (.iconst 0, 1) := by decide +kernel
theorem d_People_isFit_31 : decode b_People_isFit 31 = .ok (.ireturn, 1) := by decide +kernel
theorem d_People_isFit_32 : decode b_People_isFit 32 = .ok (.aload_n 0, 1) := by decide +kernel
theorem d_People_isFit_33 : decode b_People_isFit 33 = .ok (.getfield 28, 3) := by decide +kernel
theorem d_People_isFit_36 : decode b_People_isFit 36 = .ok (.iload_n 1, 1) := by decide +kernel
theorem d_People_isFit_37 : decode b_People_isFit 37 = .ok (.iaload, 1) := by decide +kernel
theorem d_People_isFit_38 : decode b_People_isFit 38 = .ok (.iconst 1, 1) := by decide +kernel
theorem d_People_isFit_39 : decode b_People_isFit 39 = .ok (.if_icmp .ne 15, 3) := by decide +kernel
theorem d_People_isFit_42 : decode b_People_isFit 42 = .ok (.aload_n 3, 1) := by decide +kernel
theorem d_People_isFit_43 : decode b_People_isFit 43 = .ok (.getfield 43, 3) := by decide +kernel
theorem d_People_isFit_46 : decode b_People_isFit 46 = .ok (.iload_n 2, 1) := by decide +kernel
theorem d_People_isFit_47 : decode b_People_isFit 47 = .ok (.iaload, 1) := by decide +kernel
theorem d_People_isFit_48 : decode b_People_isFit 48 = .ok (.sipush 360, 3) := by decide +kernel
theorem d_People_isFit_51 : decode b_People_isFit 51 = .ok (.if_icmp .lt 7, 3) := by decide +kernel
theorem d_People_isFit_54 : decode b_People_isFit 54 = .ok (.iconst 1, 1) := by decide +kernel
theorem d_People_isFit_55 : decode b_People_isFit 55 = .ok (.goto 4, 3) := by decide +kernel
theorem d_People_isFit_58 : decode b_People_isFit 58 = .ok (.iconst 0, 1) := by decide +kernel
theorem d_People_isFit_59 : decode b_People_isFit 59 = .ok (.ireturn, 1) := by decide +kernel
def s_People_isFit_0 (σ : MI) (τ : ML) (a1 : Int32) (a2 : Int32) (R : Int32 → MI → ML → Prop) : Prop :=
  vp_in a1 4 ∧ (vp_in a2 7 ∧ (((σ 2 (Int32.toNatClampNeg a1)) < (σ 9 (Int32.toNatClampNeg a2)) →
  ((0 = (0 : Int32) ∨ 0 = (1 : Int32)) ∧ R 0 σ τ)) ∧
  (¬ (σ 2 (Int32.toNatClampNeg a1)) < (σ 9 (Int32.toNatClampNeg a2)) →
  (vp_in a2 7 ∧ (vp_in a1 4 ∧ (((σ 12 (Int32.toNatClampNeg a2)) ≤ (σ 4 (Int32.toNatClampNeg a1)) →
    (vp_in a1 4 ∧ ((¬ (σ 6 (Int32.toNatClampNeg a1)) = 1 →
      ((1 = (0 : Int32) ∨ 1 = (1 : Int32)) ∧ R 1 σ τ)) ∧
      ((σ 6 (Int32.toNatClampNeg a1)) = 1 →
      (vp_in a2 7 ∧ (((σ 11 (Int32.toNatClampNeg a2)) < 360 →
        ((0 = (0 : Int32) ∨ 0 = (1 : Int32)) ∧ R 0 σ τ)) ∧
        (¬ (σ 11 (Int32.toNatClampNeg a2)) < 360 →
        ((1 = (0 : Int32) ∨ 1 = (1 : Int32)) ∧ R 1 σ τ)))))))) ∧
    (¬ (σ 12 (Int32.toNatClampNeg a2)) ≤ (σ 4 (Int32.toNatClampNeg a1)) →
    ((0 = (0 : Int32) ∨ 0 = (1 : Int32)) ∧ R 0 σ τ))))))))
set_option maxHeartbeats 4000000 in
set_option maxRecDepth 100000 in
theorem k_People_isFit (l : Launch) (D : va_G) (ad : Nat → Nat) (ci cl : ClassId)
    (pre : MI → ML → Int32 → Int32 → Prop) (post : MI → ML → Int32 → Int32 → Int32 → MI → ML → Prop)
    (v0 : ∀ (σ0 : MI) (τ0 : ML) (a1 : Int32) (a2 : Int32), pre σ0 τ0 a1 a2 → s_People_isFit_0 σ0 τ0 a1 a2 (post σ0 τ0 a1 a2)) :
    ∀ (sz : Nat) (σ0 : MI) (τ0 : ML) (a1 : Int32) (a2 : Int32), pre σ0 τ0 a1 a2 → gMi l D (xw ad ci cl) (xt ci cl) (xa ad) y_People_isFit w_People_isFit rm_People_isFit [.ref (ad 1), .int a1, .int a2, .ref (ad 8)] sz σ0 τ0 (post σ0 τ0 a1 a2) := by
  intro sz σ0 τ0 a1 a2 hpre
  refine gk_ofWi (cc := b_People_isFit) (maxL := 4) (ret := (some .boolean)) (by decide) rfl xa_ok (Nat.le_of_ble_eq_true rfl) ?_
  intro p e s m below meth c ls hx hb hr hlocks hml hown hts hK hP hD hS hl
  have hl : lv_has ls 4 [(0, .ref (ad 1)), (1, .int a1), (2, .int a2), (3, .ref (ad 8))] := hl
  have hown : s.vm.findClass R_People = some m.cls := hown
  have hv := v0 σ0 τ0 a1 a2 hpre
  unfold s_People_isFit_0 at hv
  refine lv_aload_n hx hb d_People_isFit_0 rfl (lv_at hl 0 rfl) ?_
  refine va_get (D := D) (ci := 1) (v := .ref (ad 2)) (C := R_People) (T := F_People) (N := 7) hx hb hts iw_People hown hK hP 1 rfl rfl 1 (by decide) (hts _ t_w8) (fun _ h9 => h9) rfl d_People_isFit_1 ?_
  refine lv_iload_n hx hb d_People_isFit_4 rfl (lv_at hl 1 rfl) ?_
  obtain ⟨hi, hv⟩ := hv
  refine va_iald hx hb hK hP 2 0 rfl rfl hi d_People_isFit_5 ?_
  refine lv_aload_n hx hb d_People_isFit_6 rfl (lv_at hl 3 rfl) ?_
  refine va_get (D := D) (ci := 0) (v := .ref (ad 9)) (C := R_Jobs) (T := F_Jobs) (N := 7) hx hb hts iw_Jobs hown hK hP 8 rfl rfl 1 (by decide) (hts _ t_w67) (fun _ h9 => h9) rfl d_People_isFit_7 ?_
  refine lv_iload_n hx hb d_People_isFit_10 rfl (lv_at hl 2 rfl) ?_
  obtain ⟨hi, hv⟩ := hv
  refine va_iald hx hb hK hP 9 0 rfl rfl hi d_People_isFit_11 ?_
  refine lv_icmp_lt (tgt := 30) hx hb d_People_isFit_12 (by decide) (fun hc => ?_) (fun hc => ?_)
  · replace hv := hv.1 hc
    refine lv_iconst (v := 0) hx hb d_People_isFit_30 (by decide) ?_
    obtain ⟨hz, hv⟩ := hv
    exact gk_zret hx hb hr hlocks (gk_nz hz) hK hP hD hS hv d_People_isFit_31
  · replace hv := hv.2 hc
    refine lv_aload_n hx hb d_People_isFit_15 rfl (lv_at hl 3 rfl) ?_
    refine va_get (D := D) (ci := 0) (v := .ref (ad 12)) (C := R_Jobs) (T := F_Jobs) (N := 7) hx hb hts iw_Jobs hown hK hP 8 rfl rfl 4 (by decide) (hts _ t_w86) (fun _ h9 => h9) rfl d_People_isFit_16 ?_
    refine lv_iload_n hx hb d_People_isFit_19 rfl (lv_at hl 2 rfl) ?_
    obtain ⟨hi, hv⟩ := hv
    refine va_iald hx hb hK hP 12 0 rfl rfl hi d_People_isFit_20 ?_
    refine lv_aload_n hx hb d_People_isFit_21 rfl (lv_at hl 0 rfl) ?_
    refine va_get (D := D) (ci := 1) (v := .ref (ad 4)) (C := R_People) (T := F_People) (N := 7) hx hb hts iw_People hown hK hP 1 rfl rfl 3 (by decide) (hts _ t_w10) (fun _ h9 => h9) rfl d_People_isFit_22 ?_
    refine lv_iload_n hx hb d_People_isFit_25 rfl (lv_at hl 1 rfl) ?_
    obtain ⟨hi, hv⟩ := hv
    refine va_iald hx hb hK hP 4 0 rfl rfl hi d_People_isFit_26 ?_
    refine lv_icmp_le (tgt := 32) hx hb d_People_isFit_27 (by decide) (fun hc => ?_) (fun hc => ?_)
    · replace hv := hv.1 hc
      refine lv_aload_n hx hb d_People_isFit_32 rfl (lv_at hl 0 rfl) ?_
      refine va_get (D := D) (ci := 1) (v := .ref (ad 6)) (C := R_People) (T := F_People) (N := 7) hx hb hts iw_People hown hK hP 1 rfl rfl 5 (by decide) (hts _ t_w68) (fun _ h9 => h9) rfl d_People_isFit_33 ?_
      refine lv_iload_n hx hb d_People_isFit_36 rfl (lv_at hl 1 rfl) ?_
      obtain ⟨hi, hv⟩ := hv
      refine va_iald hx hb hK hP 6 0 rfl rfl hi d_People_isFit_37 ?_
      refine lv_iconst (v := 1) hx hb d_People_isFit_38 (by decide) ?_
      refine lv_icmp_ne (tgt := 54) hx hb d_People_isFit_39 (by decide) (fun hc => ?_) (fun hc => ?_)
      · replace hv := hv.1 hc
        refine lv_iconst (v := 1) hx hb d_People_isFit_54 (by decide) ?_
        refine lv_goto (tgt := 59) hx hb d_People_isFit_55 (by decide) ?_
        obtain ⟨hz, hv⟩ := hv
        exact gk_zret hx hb hr hlocks (gk_nz hz) hK hP hD hS hv d_People_isFit_59
      · replace hv := hv.2 hc
        refine lv_aload_n hx hb d_People_isFit_42 rfl (lv_at hl 3 rfl) ?_
        refine va_get (D := D) (ci := 0) (v := .ref (ad 11)) (C := R_Jobs) (T := F_Jobs) (N := 7) hx hb hts iw_Jobs hown hK hP 8 rfl rfl 3 (by decide) (hts _ t_w87) (fun _ h9 => h9) rfl d_People_isFit_43 ?_
        refine lv_iload_n hx hb d_People_isFit_46 rfl (lv_at hl 2 rfl) ?_
        obtain ⟨hi, hv⟩ := hv
        refine va_iald hx hb hK hP 11 0 rfl rfl hi d_People_isFit_47 ?_
        refine lv_sipush (v := 360) hx hb d_People_isFit_48 (by decide) ?_
        refine lv_icmp_lt (tgt := 58) hx hb d_People_isFit_51 (by decide) (fun hc => ?_) (fun hc => ?_)
        · replace hv := hv.1 hc
          refine lv_iconst (v := 0) hx hb d_People_isFit_58 (by decide) ?_
          obtain ⟨hz, hv⟩ := hv
          exact gk_zret hx hb hr hlocks (gk_nz hz) hK hP hD hS hv d_People_isFit_59
        · replace hv := hv.2 hc
          refine lv_iconst (v := 1) hx hb d_People_isFit_54 (by decide) ?_
          refine lv_goto (tgt := 59) hx hb d_People_isFit_55 (by decide) ?_
          obtain ⟨hz, hv⟩ := hv
          exact gk_zret hx hb hr hlocks (gk_nz hz) hK hP hD hS hv d_People_isFit_59
    · replace hv := hv.2 hc
      refine lv_iconst (v := 0) hx hb d_People_isFit_30 (by decide) ?_
      obtain ⟨hz, hv⟩ := hv
      exact gk_zret hx hb hr hlocks (gk_nz hz) hK hP hD hS hv d_People_isFit_31
theorem d_Planner_travelOf_0 : decode b_Planner_travelOf 0 = .ok (.aload_n 1, 1) := by decide +kernel
theorem d_Planner_travelOf_1 : decode b_Planner_travelOf 1 = .ok (.getfield 52, 3) := by decide +kernel
theorem d_Planner_travelOf_4 : decode b_Planner_travelOf 4 = .ok (.iload 4, 2) := by decide +kernel
theorem d_Planner_travelOf_6 : decode b_Planner_travelOf 6 = .ok (.iaload, 1) := by decide +kernel
theorem d_Planner_travelOf_7 : decode b_Planner_travelOf 7 = .ok (.iconst 2, 1) := by decide +kernel
theorem d_Planner_travelOf_8 : decode b_Planner_travelOf 8 = .ok (.if_icmp .ne 14, 3) := by decide +kernel
theorem d_Planner_travelOf_11 : decode b_Planner_travelOf 11 = .ok (.iload 5, 2) := by decide +kernel
theorem d_Planner_travelOf_13 : decode b_Planner_travelOf 13 = .ok (.invokestatic 55, 3) := by decide +kernel
theorem d_Planner_travelOf_16 : decode b_Planner_travelOf 16 = .ok (.iconst 2, 1) := by decide +kernel
theorem d_Planner_travelOf_17 : decode b_Planner_travelOf 17 = .ok (.if_icmp .le 5, 3) := by decide +kernel
theorem d_Planner_travelOf_20 : decode b_Planner_travelOf 20 = .ok (.iconst (-1), 1) := by decide +kernel
theorem d_Planner_travelOf_21 : decode b_Planner_travelOf 21 = .ok (.ireturn, 1) := by decide +kernel
theorem d_Planner_travelOf_22 : decode b_Planner_travelOf 22 = .ok (.aload_n 1, 1) := by decide +kernel
theorem d_Planner_travelOf_23 : decode b_Planner_travelOf 23 = .ok (.getfield 60, 3) := by decide +kernel
theorem d_Planner_travelOf_26 : decode b_Planner_travelOf 26 = .ok (.iload 4, 2) := by decide +kernel
theorem d_Planner_travelOf_28 : decode b_Planner_travelOf 28 = .ok (.iaload, 1) := by decide +kernel
theorem d_Planner_travelOf_29 : decode b_Planner_travelOf 29 = .ok (.istore 6, 2) := by decide +kernel
theorem d_Planner_travelOf_31 : decode b_Planner_travelOf 31 = .ok (.aload_n 1, 1) := by decide +kernel
theorem d_Planner_travelOf_32 : decode b_Planner_travelOf 32 = .ok (.getfield 63, 3) := by decide +kernel
theorem d_Planner_travelOf_35 : decode b_Planner_travelOf 35 = .ok (.iload 4, 2) := by decide +kernel
theorem d_Planner_travelOf_37 : decode b_Planner_travelOf 37 = .ok (.iaload, 1) := by decide +kernel
theorem d_Planner_travelOf_38 : decode b_Planner_travelOf 38 = .ok (.istore 7, 2) := by decide +kernel
theorem d_Planner_travelOf_40 : decode b_Planner_travelOf 40 = .ok (.iconst 0, 1) := by decide +kernel
theorem d_Planner_travelOf_41 : decode b_Planner_travelOf 41 = .ok (.istore 8, 2) := by decide +kernel
theorem d_Planner_travelOf_43 : decode b_Planner_travelOf 43 = .ok (.iconst 0, 1) := by decide +kernel
theorem d_Planner_travelOf_44 : decode b_Planner_travelOf 44 = .ok (.istore 9, 2) := by decide +kernel
theorem d_Planner_travelOf_46 : decode b_Planner_travelOf 46 = .ok (.iload 9, 2) := by decide +kernel
theorem d_Planner_travelOf_48 : decode b_Planner_travelOf 48 = .ok (.aload_n 2, 1) := by decide +kernel
theorem d_Planner_travelOf_49 : decode b_Planner_travelOf 49 = .ok (.getfield 18, 3) := by decide +kernel
theorem d_Planner_travelOf_52 : decode b_Planner_travelOf 52 = .ok (.if_icmp .ge 102, 3) := by decide +kernel
theorem d_Planner_travelOf_55 : decode b_Planner_travelOf 55 = .ok (.aload_n 2, 1) := by decide +kernel
theorem d_Planner_travelOf_56 : decode b_Planner_travelOf 56 = .ok (.getfield 66, 3) := by decide +kernel
theorem d_Planner_travelOf_59 : decode b_Planner_travelOf 59 = .ok (.iload 9, 2) := by decide +kernel
theorem d_Planner_travelOf_61 : decode b_Planner_travelOf 61 = .ok (.iaload, 1) := by decide +kernel
theorem d_Planner_travelOf_62 : decode b_Planner_travelOf 62 = .ok (.istore 10, 2) := by decide +kernel
theorem d_Planner_travelOf_64 : decode b_Planner_travelOf 64 = .ok (.iload 5, 2) := by decide +kernel
theorem d_Planner_travelOf_66 : decode b_Planner_travelOf 66 = .ok (.iload 10, 2) := by decide +kernel
theorem d_Planner_travelOf_68 : decode b_Planner_travelOf 68 = .ok (.ishr, 1) := by decide +kernel
theorem d_Planner_travelOf_69 : decode b_Planner_travelOf 69 = .ok (.iconst 1, 1) := by decide +kernel
theorem d_Planner_travelOf_70 : decode b_Planner_travelOf 70 = .ok (.iand, 1) := by decide +kernel
theorem d_Planner_travelOf_71 : decode b_Planner_travelOf 71 = .ok (.ifCond .eq 77, 3) := by decide +kernel
theorem d_Planner_travelOf_74 : decode b_Planner_travelOf 74 = .ok (.aload_n 3, 1) := by decide +kernel
theorem d_Planner_travelOf_75 : decode b_Planner_travelOf 75 = .ok (.iload 6, 2) := by decide +kernel
theorem d_Planner_travelOf_77 : decode b_Planner_travelOf 77 = .ok (.aload_n 2, 1) := by decide +kernel
theorem d_Planner_travelOf_78 : decode b_Planner_travelOf 78 = .ok (.getfield 69, 3) := by decide +kernel
theorem d_Planner_travelOf_81 : decode b_Planner_travelOf 81 = .ok (.iload 10, 2) := by decide +kernel
theorem d_Planner_travelOf_83 : decode b_Planner_travelOf 83 = .ok (.iaload, 1) := by decide +kernel
theorem d_Planner_travelOf_84 : decode b_Planner_travelOf 84 = .ok (.invokevirtual 72, 3) := by decide +kernel
theorem d_Planner_travelOf_87 : decode b_Planner_travelOf 87 = .ok (.istore 11, 2) := by decide +kernel
theorem d_Planner_travelOf_89 : decode b_Planner_travelOf 89 = .ok (.aload_n 1, 1) := by decide +kernel
theorem d_Planner_travelOf_90 : decode b_Planner_travelOf 90 = .ok (.iload 4, 2) := by decide +kernel
theorem d_Planner_travelOf_92 : decode b_Planner_travelOf 92 = .ok (.iload 10, 2) := by decide +kernel
theorem d_Planner_travelOf_94 : decode b_Planner_travelOf 94 = .ok (.aload_n 2, 1) := by decide +kernel
theorem d_Planner_travelOf_95 : decode b_Planner_travelOf 95 = .ok (.invokevirtual 78, 3) := by decide +kernel
theorem d_Planner_travelOf_98 : decode b_Planner_travelOf 98 = .ok (.ifCond .eq 18, 3) := by decide +kernel
theorem d_Planner_travelOf_101 : decode b_Planner_travelOf 101 = .ok (.aload_n 2, 1) := by decide +kernel
theorem d_Planner_travelOf_102 : decode b_Planner_travelOf 102 = .ok (.getfield 82, 3) := by decide +kernel
theorem d_Planner_travelOf_105 : decode b_Planner_travelOf 105 = .ok (.iload 10, 2) := by decide +kernel
theorem d_Planner_travelOf_107 : decode b_Planner_travelOf 107 = .ok (.iaload, 1) := by decide +kernel
theorem d_Planner_travelOf_108 : decode b_Planner_travelOf 108 = .ok (.iload 7, 2) := by decide +kernel
theorem d_Planner_travelOf_110 : decode b_Planner_travelOf 110 = .ok (.iload 11, 2) := by decide +kernel
theorem d_Planner_travelOf_112 : decode b_Planner_travelOf 112 = .ok (.iadd, 1) := by decide +kernel
theorem d_Planner_travelOf_113 : decode b_Planner_travelOf 113 = .ok (.if_icmp .ge 5, 3) := by decide +kernel
theorem d_Planner_travelOf_116 : decode b_Planner_travelOf 116 = .ok (.iconst (-1), 1) := by decide +kernel
theorem d_Planner_travelOf_117 : decode b_Planner_travelOf 117 = .ok (.ireturn, 1) := by decide +kernel
theorem d_Planner_travelOf_118 : decode b_Planner_travelOf 118 = .ok (.iload 8, 2) := by decide +kernel
theorem d_Planner_travelOf_120 : decode b_Planner_travelOf 120 = .ok (.iload 11, 2) := by decide +kernel
theorem d_Planner_travelOf_122 : decode b_Planner_travelOf 122 = .ok (.iadd, 1) := by decide +kernel
theorem d_Planner_travelOf_123 : decode b_Planner_travelOf 123 = .ok (.istore 8, 2) := by decide +kernel
theorem d_Planner_travelOf_125 : decode b_Planner_travelOf 125 = .ok (.aload_n 2, 1) := by decide +kernel
theorem d_Planner_travelOf_126 : decode b_Planner_travelOf 126 = .ok (.getfield 69, 3) := by decide +kernel
theorem d_Planner_travelOf_129 : decode b_Planner_travelOf 129 = .ok (.iload 10, 2) := by decide +kernel
theorem d_Planner_travelOf_131 : decode b_Planner_travelOf 131 = .ok (.iaload, 1) := by decide +kernel
theorem d_Planner_travelOf_132 : decode b_Planner_travelOf 132 = .ok (.istore 6, 2) := by decide +kernel
theorem d_Planner_travelOf_134 : decode b_Planner_travelOf 134 = .ok (.aload_n 2, 1) := by decide +kernel
theorem d_Planner_travelOf_135 : decode b_Planner_travelOf 135 = .ok (.getfield 83, 3) := by decide +kernel
theorem d_Planner_travelOf_138 : decode b_Planner_travelOf 138 = .ok (.iload 10, 2) := by decide +kernel
theorem d_Planner_travelOf_140 : decode b_Planner_travelOf 140 = .ok (.iaload, 1) := by decide +kernel
theorem d_Planner_travelOf_141 : decode b_Planner_travelOf 141 = .ok (.aload_n 3, 1) := by decide +kernel
theorem d_Planner_travelOf_142 : decode b_Planner_travelOf 142 = .ok (.getfield 86, 3) := by decide +kernel
theorem d_Planner_travelOf_145 : decode b_Planner_travelOf 145 = .ok (.iadd, 1) := by decide +kernel
theorem d_Planner_travelOf_146 : decode b_Planner_travelOf 146 = .ok (.istore 7, 2) := by decide +kernel
theorem d_Planner_travelOf_148 : decode b_Planner_travelOf 148 = .ok (.iinc 9 1, 3) := by decide +kernel
theorem d_Planner_travelOf_151 : decode b_Planner_travelOf 151 = .ok (.goto (-105), 3) := by decide +kernel
theorem d_Planner_travelOf_154 : decode b_Planner_travelOf 154 = .ok (.iload 8, 2) := by decide +kernel
theorem d_Planner_travelOf_156 : decode b_Planner_travelOf 156 = .ok (.ireturn, 1) := by decide +kernel
def s_Planner_travelOf_22 (P_Integer_bitCount : MI → ML → Int32 → Prop) (Q_Integer_bitCount : MI → ML → Int32 → Int32 → MI → ML → Prop) (P_Ways_between : MI → ML → Int32 → Int32 → Prop) (Q_Ways_between : MI → ML → Int32 → Int32 → Int32 → MI → ML → Prop) (P_People_isFit : MI → ML → Int32 → Int32 → Prop) (Q_People_isFit : MI → ML → Int32 → Int32 → Int32 → MI → ML → Prop) (σ : MI) (τ : ML) (x4 : Int32) (x5 : Int32) (K46 : Int32 → Int32 → Int32 → Int32 → Int32 → Int32 → MI → ML → Prop) (R : Int32 → MI → ML → Prop) : Prop :=
  vp_in x4 4 ∧ (∀ y29 : Int32, y29 = σ 5 (Int32.toNatClampNeg x4) → (vp_in x4 4 ∧ (∀ y38 : Int32, y38 = σ 3 (Int32.toNatClampNeg x4) → (K46 x4 x5 y29 y38 0 0 σ τ))))
def s_Planner_travelOf_0 (P_Integer_bitCount : MI → ML → Int32 → Prop) (Q_Integer_bitCount : MI → ML → Int32 → Int32 → MI → ML → Prop) (P_Ways_between : MI → ML → Int32 → Int32 → Prop) (Q_Ways_between : MI → ML → Int32 → Int32 → Int32 → MI → ML → Prop) (P_People_isFit : MI → ML → Int32 → Int32 → Prop) (Q_People_isFit : MI → ML → Int32 → Int32 → Int32 → MI → ML → Prop) (σ : MI) (τ : ML) (a4 : Int32) (a5 : Int32) (K46 : Int32 → Int32 → Int32 → Int32 → Int32 → Int32 → MI → ML → Prop) (R : Int32 → MI → ML → Prop) : Prop :=
  vp_in a4 4 ∧ ((¬ (σ 6 (Int32.toNatClampNeg a4)) = 2 →
  (s_Planner_travelOf_22 P_Integer_bitCount Q_Integer_bitCount P_Ways_between Q_Ways_between P_People_isFit Q_People_isFit σ τ a4 a5 K46 R)) ∧
  ((σ 6 (Int32.toNatClampNeg a4)) = 2 →
  (P_Integer_bitCount σ τ a5 ∧ ∀ (r13 : Int32) (s13 : MI) (t13 : ML), Q_Integer_bitCount σ τ a5 r13 s13 t13 → ((r13 ≤ 2 →
    (s_Planner_travelOf_22 P_Integer_bitCount Q_Integer_bitCount P_Ways_between Q_Ways_between P_People_isFit Q_People_isFit s13 t13 a4 a5 K46 R)) ∧
    (¬ r13 ≤ 2 →
    (R ((-1)) s13 t13))))))
def s_Planner_travelOf_46 (P_Integer_bitCount : MI → ML → Int32 → Prop) (Q_Integer_bitCount : MI → ML → Int32 → Int32 → MI → ML → Prop) (P_Ways_between : MI → ML → Int32 → Int32 → Prop) (Q_Ways_between : MI → ML → Int32 → Int32 → Int32 → MI → ML → Prop) (P_People_isFit : MI → ML → Int32 → Int32 → Prop) (Q_People_isFit : MI → ML → Int32 → Int32 → Int32 → MI → ML → Prop) (σ : MI) (τ : ML) (x4 : Int32) (x5 : Int32) (x6 : Int32) (x7 : Int32) (x8 : Int32) (x9 : Int32) (K46 : Int32 → Int32 → Int32 → Int32 → Int32 → Int32 → MI → ML → Prop) (R : Int32 → MI → ML → Prop) : Prop :=
  ((σ 8 0) ≤ x9 →
  (R x8 σ τ)) ∧
  (¬ (σ 8 0) ≤ x9 →
  (vp_in x9 7 ∧ (∀ y62 : Int32, y62 = σ 14 (Int32.toNatClampNeg x9) → ((((x5 >>> (y62 &&& 31)) &&& 1) = 0 →
    (∀ y148 : Int32, y148 = x9 + 1 → (K46 x4 x5 x6 x7 x8 y148 σ τ))) ∧
    (¬ ((x5 >>> (y62 &&& 31)) &&& 1) = 0 →
    (vp_in y62 7 ∧ (P_Ways_between σ τ x6 (σ 13 (Int32.toNatClampNeg y62)) ∧ ∀ (r84 : Int32) (s84 : MI) (t84 : ML), Q_Ways_between σ τ x6 (σ 13 (Int32.toNatClampNeg y62)) r84 s84 t84 → (P_People_isFit s84 t84 x4 y62 ∧ ∀ (r95 : Int32) (s95 : MI) (t95 : ML), Q_People_isFit s84 t84 x4 y62 r95 s95 t95 → ((r95 = 0 →
      (R ((-1)) s95 t95)) ∧
      (¬ r95 = 0 →
      (vp_in y62 7 ∧ (((x7 + r84) ≤ (s95 11 (Int32.toNatClampNeg y62)) →
        (∀ y123 : Int32, y123 = x8 + r84 → (vp_in y62 7 ∧ (∀ y132 : Int32, y132 = s95 13 (Int32.toNatClampNeg y62) → (vp_in y62 7 ∧ (∀ y146 : Int32, y146 = (s95 12 (Int32.toNatClampNeg y62)) + (s95 17 0) → (∀ y148 : Int32, y148 = x9 + 1 → (K46 x4 x5 y132 y146 y123 y148 s95 t95)))))))) ∧
        (¬ (x7 + r84) ≤ (s95 11 (Int32.toNatClampNeg y62)) →
        (R ((-1)) s95 t95))))))))))))))
set_option maxHeartbeats 4000000 in
set_option maxRecDepth 100000 in
theorem k_Planner_travelOf (l : Launch) (D : va_G) (ad : Nat → Nat) (ci cl : ClassId)
    (pre : MI → ML → Int32 → Int32 → Prop) (post : MI → ML → Int32 → Int32 → Int32 → MI → ML → Prop) (P_Integer_bitCount : MI → ML → Int32 → Prop) (Q_Integer_bitCount : MI → ML → Int32 → Int32 → MI → ML → Prop) (P_Ways_between : MI → ML → Int32 → Int32 → Prop) (Q_Ways_between : MI → ML → Int32 → Int32 → Int32 → MI → ML → Prop) (P_People_isFit : MI → ML → Int32 → Int32 → Prop) (Q_People_isFit : MI → ML → Int32 → Int32 → Int32 → MI → ML → Prop)
    (h_Integer_bitCount : ∀ (sz : Nat) (σ : MI) (τ : ML) (b0 : Int32), P_Integer_bitCount σ τ b0 → gMi l D (xw ad ci cl) (xt ci cl) (xa ad) y_Integer_bitCount w_Integer_bitCount rm_Integer_bitCount [.int b0] sz σ τ (Q_Integer_bitCount σ τ b0))
    (h_Ways_between : ∀ (sz : Nat) (σ : MI) (τ : ML) (b0 : Int32) (b1 : Int32), P_Ways_between σ τ b0 b1 → gMi l D (xw ad ci cl) (xt ci cl) (xa ad) y_Ways_between w_Ways_between rm_Ways_between [.ref (ad 17), .int b0, .int b1] sz σ τ (Q_Ways_between σ τ b0 b1))
    (h_People_isFit : ∀ (sz : Nat) (σ : MI) (τ : ML) (b0 : Int32) (b1 : Int32), P_People_isFit σ τ b0 b1 → gMi l D (xw ad ci cl) (xt ci cl) (xa ad) y_People_isFit w_People_isFit rm_People_isFit [.ref (ad 1), .int b0, .int b1, .ref (ad 8)] sz σ τ (Q_People_isFit σ τ b0 b1))
    (I46 : MI → ML → Int32 → Int32 → Int32 → Int32 → Int32 → Int32 → Int32 → Int32 → MI → ML → Prop) (m46 : MI → ML → Int32 → Int32 → Int32 → Int32 → Int32 → Int32 → Int32 → Int32 → MI → ML → Nat)
    (v0 : ∀ (σ0 : MI) (τ0 : ML) (a4 : Int32) (a5 : Int32), pre σ0 τ0 a4 a5 → s_Planner_travelOf_0 P_Integer_bitCount Q_Integer_bitCount P_Ways_between Q_Ways_between P_People_isFit Q_People_isFit σ0 τ0 a4 a5 (fun z0 z1 z2 z3 z4 z5 σ9 τ9 => I46 σ0 τ0 a4 a5 z0 z1 z2 z3 z4 z5 σ9 τ9) (post σ0 τ0 a4 a5))
    (v46 : ∀ (σ0 : MI) (τ0 : ML) (a4 : Int32) (a5 : Int32) (x4 : Int32) (x5 : Int32) (x6 : Int32) (x7 : Int32) (x8 : Int32) (x9 : Int32) (σ : MI) (τ : ML), I46 σ0 τ0 a4 a5 x4 x5 x6 x7 x8 x9 σ τ → s_Planner_travelOf_46 P_Integer_bitCount Q_Integer_bitCount P_Ways_between Q_Ways_between P_People_isFit Q_People_isFit σ τ x4 x5 x6 x7 x8 x9 (fun z0 z1 z2 z3 z4 z5 σ9 τ9 => I46 σ0 τ0 a4 a5 z0 z1 z2 z3 z4 z5 σ9 τ9 ∧ m46 σ0 τ0 a4 a5 z0 z1 z2 z3 z4 z5 σ9 τ9 < m46 σ0 τ0 a4 a5 x4 x5 x6 x7 x8 x9 σ τ) (post σ0 τ0 a4 a5)) :
    ∀ (sz : Nat) (σ0 : MI) (τ0 : ML) (a4 : Int32) (a5 : Int32), pre σ0 τ0 a4 a5 → gMi l D (xw ad ci cl) (xt ci cl) (xa ad) y_Planner_travelOf w_Planner_travelOf rm_Planner_travelOf [.ref (ad 19), .ref (ad 1), .ref (ad 8), .ref (ad 17), .int a4, .int a5] sz σ0 τ0 (post σ0 τ0 a4 a5) := by
  intro sz σ0 τ0 a4 a5 hpre
  refine gk_ofWi (cc := b_Planner_travelOf) (maxL := 12) (ret := (some .int)) (by decide) rfl xa_ok (Nat.le_of_ble_eq_true rfl) ?_
  intro p e s m below meth c ls hx hb hr hlocks hml hown hts hK hP hD hS hl
  have hl : lv_has ls 12 [(0, .ref (ad 19)), (1, .ref (ad 1)), (2, .ref (ad 8)), (3, .ref (ad 17)), (4, .int a4), (5, .int a5)] := hl
  have hown : s.vm.findClass R_Planner = some m.cls := hown
  have hL : ∀ n : Nat, (∀ (x4 : Int32) (x5 : Int32) (x6 : Int32) (x7 : Int32) (x8 : Int32) (x9 : Int32) (σ : MI) (τ : ML) (H : Heap) (locs : List Loc) (ls : Array Slot), m46 σ0 τ0 a4 a5 x4 x5 x6 x7 x8 x9 σ τ < n → I46 σ0 τ0 a4 a5 x4 x5 x6 x7 x8 x9 σ τ → va_P D classes ((xw ad ci cl) σ τ) H → va_D (gA (xa ad) s.heap.size) ((xw ad ci cl) σ τ) → va_S (gA (xa ad) s.heap.size) s.heap H locs → lv_has ls 12 [(1, .ref (ad 1)), (2, .ref (ad 8)), (3, .ref (ad 17)), (4, .int x4), (5, .int x5), (6, .int x6), (7, .int x7), (8, .int x8), (9, .int x9)] → W p l e rm_Planner_travelOf s m [.ref (ad 19), .ref (ad 1), .ref (ad 8), .ref (ad 17), .int a4, .int a5].toArray below meth c H locs 0 0 (gQi D (xw ad ci cl) (xt ci cl) (xa ad) below [.ref (ad 19), .ref (ad 1), .ref (ad 8), .ref (ad 17), .int a4, .int a5] s (post σ0 τ0 a4 a5)) (F0 m 46 ls [])) := by
    intro n
    induction n with
    | zero => exact fun _ _ _ _ _ _ _ _ _ _ _ hn => absurd hn (Nat.not_lt_zero _)
    | succ n ih =>
      · intro x4 x5 x6 x7 x8 x9 σ τ H locs ls hn hI hP hD hS hl
        have hv := v46 σ0 τ0 a4 a5 x4 x5 x6 x7 x8 x9 σ τ hI
        unfold s_Planner_travelOf_46 at hv
        refine lv_iload hx hb d_Planner_travelOf_46 (lv_at hl 8 rfl) ?_
        refine lv_aload_n hx hb d_Planner_travelOf_48 rfl (lv_at hl 1 rfl) ?_
        refine va_get (D := D) (ci := 0) (v := .int (σ 8 0)) (C := R_Jobs) (T := F_Jobs) (N := 7) hx hb hts iw_Jobs hown hK hP 8 rfl rfl 0 (by decide) (hts _ t_w91) (fun _ h9 => h9) rfl d_Planner_travelOf_49 ?_
        refine lv_icmp_ge (tgt := 154) hx hb d_Planner_travelOf_52 (by decide) (fun hc => ?_) (fun hc => ?_)
        · replace hv := hv.1 hc
          refine lv_iload hx hb d_Planner_travelOf_154 (lv_at hl 7 rfl) ?_
          exact gk_iret hx hb hr hlocks hK hP hD hS hv d_Planner_travelOf_156
        · replace hv := hv.2 hc
          refine lv_aload_n hx hb d_Planner_travelOf_55 rfl (lv_at hl 1 rfl) ?_
          refine va_get (D := D) (ci := 0) (v := .ref (ad 14)) (C := R_Jobs) (T := F_Jobs) (N := 7) hx hb hts iw_Jobs hown hK hP 8 rfl rfl 6 (by decide) (hts _ t_w92) (fun _ h9 => h9) rfl d_Planner_travelOf_56 ?_
          refine lv_iload hx hb d_Planner_travelOf_59 (lv_at hl 8 rfl) ?_
          obtain ⟨hi, hv⟩ := hv
          refine va_iald hx hb hK hP 14 0 rfl rfl hi d_Planner_travelOf_61 ?_
          refine lv_topi (fun y62 ey62 => ?_)
          replace hv := hv y62 ey62
          refine lv_istore (lv' := [(10, .int y62), (1, .ref (ad 1)), (2, .ref (ad 8)), (3, .ref (ad 17)), (4, .int x4), (5, .int x5), (6, .int x6), (7, .int x7), (8, .int x8), (9, .int x9)]) hx hb d_Planner_travelOf_62 hl (by decide) rfl (fun ls hl => ?_)
          refine lv_iload hx hb d_Planner_travelOf_64 (lv_at hl 5 rfl) ?_
          refine lv_iload hx hb d_Planner_travelOf_66 (lv_at hl 0 rfl) ?_
          refine lv_ishr hx hb d_Planner_travelOf_68 ?_
          refine lv_iconst (v := 1) hx hb d_Planner_travelOf_69 (by decide) ?_
          refine lv_iand hx hb d_Planner_travelOf_70 ?_
          refine lv_if_eq (tgt := 148) hx hb d_Planner_travelOf_71 (by decide) (fun hc => ?_) (fun hc => ?_)
          · replace hv := hv.1 hc
            obtain ⟨y148, ey148⟩ : ∃ z : Int32, z = x9 + 1 := ⟨_, rfl⟩
            replace hv := hv y148 ey148
            refine lv_iinc (v := y148) (lv' := [(9, .int y148), (10, .int y62), (1, .ref (ad 1)), (2, .ref (ad 8)), (3, .ref (ad 17)), (4, .int x4), (5, .int x5), (6, .int x6), (7, .int x7), (8, .int x8)]) hx hb d_Planner_travelOf_148 hl (k := 9) rfl (by rw [ey148]; rfl) (by decide) rfl (fun ls hl => ?_)
            refine lv_goto (tgt := 46) hx hb d_Planner_travelOf_151 (by decide) ?_
            obtain ⟨hI, hm⟩ := hv
            exact ih x4 x5 x6 x7 x8 y148 σ τ _ _ _ (Nat.lt_of_lt_of_le hm (Nat.le_of_lt_succ hn)) hI hP hD hS (lv_sub hl [2, 3, 4, 5, 6, 7, 8, 9, 0] rfl)
          · replace hv := hv.2 hc
            refine lv_aload_n hx hb d_Planner_travelOf_74 rfl (lv_at hl 3 rfl) ?_
            refine lv_iload hx hb d_Planner_travelOf_75 (lv_at hl 6 rfl) ?_
            refine lv_aload_n hx hb d_Planner_travelOf_77 rfl (lv_at hl 2 rfl) ?_
            refine va_get (D := D) (ci := 0) (v := .ref (ad 13)) (C := R_Jobs) (T := F_Jobs) (N := 7) hx hb hts iw_Jobs hown hK hP 8 rfl rfl 5 (by decide) (hts _ t_w93) (fun _ h9 => h9) rfl d_Planner_travelOf_78 ?_
            refine lv_iload hx hb d_Planner_travelOf_81 (lv_at hl 0 rfl) ?_
            obtain ⟨hi, hv⟩ := hv
            refine va_iald hx hb hK hP 13 0 rfl rfl hi d_Planner_travelOf_83 ?_
            obtain ⟨hg, hv⟩ := hv
            refine gk_callVi (As := [.int x6, .int (σ 13 (Int32.toNatClampNeg y62))]) (rest := []) (b := ad 17) ⟨hx, hb, hml, hown, hts⟩ (h_Ways_between _ σ τ x6 (σ 13 (Int32.toNatClampNeg y62)) hg) (gk_cwV 2 hts t_w97 rfl rfl rfl (hts _ t_w94) (hts _ t_w95) (hts _ t_w96) (hts _ t_w57) (by decide +kernel) ⟨Nat.le_of_ble_eq_true rfl, Nat.le_of_ble_eq_true rfl⟩) hK hP hD hS (va_recv hK hP (ci := 5) (q0 := 17) rfl rfl) rfl hl.1 rfl (lv_room (Nat.le_of_ble_eq_true rfl)) d_Planner_travelOf_84 ⟨Nat.zero_le _, Nat.zero_le _⟩ ?_
            intro r84 s84 t84 H locs hw hP hD hS
            replace hv := hv r84 s84 t84 hw
            refine lv_istore (lv' := [(11, .int r84), (10, .int y62), (1, .ref (ad 1)), (2, .ref (ad 8)), (3, .ref (ad 17)), (4, .int x4), (5, .int x5), (6, .int x6), (7, .int x7), (8, .int x8), (9, .int x9)]) hx hb d_Planner_travelOf_87 hl (by decide) rfl (fun ls hl => ?_)
            refine lv_aload_n hx hb d_Planner_travelOf_89 rfl (lv_at hl 2 rfl) ?_
            refine lv_iload hx hb d_Planner_travelOf_90 (lv_at hl 5 rfl) ?_
            refine lv_iload hx hb d_Planner_travelOf_92 (lv_at hl 1 rfl) ?_
            refine lv_aload_n hx hb d_Planner_travelOf_94 rfl (lv_at hl 3 rfl) ?_
            obtain ⟨hg, hv⟩ := hv
            refine gk_callVi (As := [.int x4, .int y62, .ref (ad 8)]) (rest := []) (b := ad 1) ⟨hx, hb, hml, hown, hts⟩ (h_People_isFit _ s84 t84 x4 y62 hg) (gk_cwV 3 hts t_w101 rfl rfl rfl (hts _ t_w98) (hts _ t_w99) (hts _ t_w100) (hts _ t_w28) (by decide +kernel) ⟨Nat.le_of_ble_eq_true rfl, Nat.le_of_ble_eq_true rfl⟩) hK hP hD hS (va_recv hK hP (ci := 1) (q0 := 1) rfl rfl) rfl hl.1 rfl (lv_room (Nat.le_of_ble_eq_true rfl)) d_Planner_travelOf_95 ⟨Nat.zero_le _, Nat.zero_le _⟩ ?_
            intro r95 s95 t95 H locs hw hP hD hS
            replace hv := hv r95 s95 t95 hw
            refine lv_if_eq (tgt := 116) hx hb d_Planner_travelOf_98 (by decide) (fun hc => ?_) (fun hc => ?_)
            · replace hv := hv.1 hc
              refine lv_iconst (v := (-1)) hx hb d_Planner_travelOf_116 (by decide) ?_
              exact gk_iret hx hb hr hlocks hK hP hD hS hv d_Planner_travelOf_117
            · replace hv := hv.2 hc
              refine lv_aload_n hx hb d_Planner_travelOf_101 rfl (lv_at hl 3 rfl) ?_
              refine va_get (D := D) (ci := 0) (v := .ref (ad 11)) (C := R_Jobs) (T := F_Jobs) (N := 7) hx hb hts iw_Jobs hown hK hP 8 rfl rfl 3 (by decide) (hts _ t_w102) (fun _ h9 => h9) rfl d_Planner_travelOf_102 ?_
              refine lv_iload hx hb d_Planner_travelOf_105 (lv_at hl 1 rfl) ?_
              obtain ⟨hi, hv⟩ := hv
              refine va_iald hx hb hK hP 11 0 rfl rfl hi d_Planner_travelOf_107 ?_
              refine lv_iload hx hb d_Planner_travelOf_108 (lv_at hl 8 rfl) ?_
              refine lv_iload hx hb d_Planner_travelOf_110 (lv_at hl 0 rfl) ?_
              refine lv_iadd hx hb d_Planner_travelOf_112 ?_
              refine lv_icmp_ge (tgt := 118) hx hb d_Planner_travelOf_113 (by decide) (fun hc => ?_) (fun hc => ?_)
              · replace hv := hv.1 hc
                refine lv_iload hx hb d_Planner_travelOf_118 (lv_at hl 9 rfl) ?_
                refine lv_iload hx hb d_Planner_travelOf_120 (lv_at hl 0 rfl) ?_
                refine lv_iadd hx hb d_Planner_travelOf_122 ?_
                refine lv_topi (fun y123 ey123 => ?_)
                replace hv := hv y123 ey123
                refine lv_istore (lv' := [(8, .int y123), (11, .int r84), (10, .int y62), (1, .ref (ad 1)), (2, .ref (ad 8)), (3, .ref (ad 17)), (4, .int x4), (5, .int x5), (6, .int x6), (7, .int x7), (9, .int x9)]) hx hb d_Planner_travelOf_123 hl (by decide) rfl (fun ls hl => ?_)
                refine lv_aload_n hx hb d_Planner_travelOf_125 rfl (lv_at hl 4 rfl) ?_
                refine va_get (D := D) (ci := 0) (v := .ref (ad 13)) (C := R_Jobs) (T := F_Jobs) (N := 7) hx hb hts iw_Jobs hown hK hP 8 rfl rfl 5 (by decide) (hts _ t_w93) (fun _ h9 => h9) rfl d_Planner_travelOf_126 ?_
                refine lv_iload hx hb d_Planner_travelOf_129 (lv_at hl 2 rfl) ?_
                obtain ⟨hi, hv⟩ := hv
                refine va_iald hx hb hK hP 13 0 rfl rfl hi d_Planner_travelOf_131 ?_
                refine lv_topi (fun y132 ey132 => ?_)
                replace hv := hv y132 ey132
                refine lv_istore (lv' := [(6, .int y132), (8, .int y123), (11, .int r84), (10, .int y62), (1, .ref (ad 1)), (2, .ref (ad 8)), (3, .ref (ad 17)), (4, .int x4), (5, .int x5), (7, .int x7), (9, .int x9)]) hx hb d_Planner_travelOf_132 hl (by decide) rfl (fun ls hl => ?_)
                refine lv_aload_n hx hb d_Planner_travelOf_134 rfl (lv_at hl 5 rfl) ?_
                refine va_get (D := D) (ci := 0) (v := .ref (ad 12)) (C := R_Jobs) (T := F_Jobs) (N := 7) hx hb hts iw_Jobs hown hK hP 8 rfl rfl 4 (by decide) (hts _ t_w103) (fun _ h9 => h9) rfl d_Planner_travelOf_135 ?_
                refine lv_iload hx hb d_Planner_travelOf_138 (lv_at hl 3 rfl) ?_
                obtain ⟨hi, hv⟩ := hv
                refine va_iald hx hb hK hP 12 0 rfl rfl hi d_Planner_travelOf_140 ?_
                refine lv_aload_n hx hb d_Planner_travelOf_141 rfl (lv_at hl 6 rfl) ?_
                refine va_get (D := D) (ci := 5) (v := .int (s95 17 0)) (C := R_Ways) (T := F_Ways) (N := 2) hx hb hts iw_Ways hown hK hP 17 rfl rfl 0 (by decide) (hts _ t_w104) (fun _ h9 => h9) rfl d_Planner_travelOf_142 ?_
                refine lv_iadd hx hb d_Planner_travelOf_145 ?_
                refine lv_topi (fun y146 ey146 => ?_)
                replace hv := hv y146 ey146
                refine lv_istore (lv' := [(7, .int y146), (6, .int y132), (8, .int y123), (11, .int r84), (10, .int y62), (1, .ref (ad 1)), (2, .ref (ad 8)), (3, .ref (ad 17)), (4, .int x4), (5, .int x5), (9, .int x9)]) hx hb d_Planner_travelOf_146 hl (by decide) rfl (fun ls hl => ?_)
                obtain ⟨y148, ey148⟩ : ∃ z : Int32, z = x9 + 1 := ⟨_, rfl⟩
                replace hv := hv y148 ey148
                refine lv_iinc (v := y148) (lv' := [(9, .int y148), (7, .int y146), (6, .int y132), (8, .int y123), (11, .int r84), (10, .int y62), (1, .ref (ad 1)), (2, .ref (ad 8)), (3, .ref (ad 17)), (4, .int x4), (5, .int x5)]) hx hb d_Planner_travelOf_148 hl (k := 10) rfl (by rw [ey148]; rfl) (by decide) rfl (fun ls hl => ?_)
                refine lv_goto (tgt := 46) hx hb d_Planner_travelOf_151 (by decide) ?_
                obtain ⟨hI, hm⟩ := hv
                exact ih x4 x5 y132 y146 y123 y148 s95 t95 _ _ _ (Nat.lt_of_lt_of_le hm (Nat.le_of_lt_succ hn)) hI hP hD hS (lv_sub hl [6, 7, 8, 9, 10, 2, 1, 3, 0] rfl)
              · replace hv := hv.2 hc
                refine lv_iconst (v := (-1)) hx hb d_Planner_travelOf_116 (by decide) ?_
                exact gk_iret hx hb hr hlocks hK hP hD hS hv d_Planner_travelOf_117
  have hv := v0 σ0 τ0 a4 a5 hpre
  unfold s_Planner_travelOf_0 at hv
  have j22 : ∀ (w4 : Int32) (w5 : Int32) (σ1 : MI) (τ1 : ML) (H : Heap) (locs : List Loc) (ls : Array Slot), s_Planner_travelOf_22 P_Integer_bitCount Q_Integer_bitCount P_Ways_between Q_Ways_between P_People_isFit Q_People_isFit σ1 τ1 w4 w5 (fun z0 z1 z2 z3 z4 z5 σ9 τ9 => I46 σ0 τ0 a4 a5 z0 z1 z2 z3 z4 z5 σ9 τ9) (post σ0 τ0 a4 a5) → va_P D classes ((xw ad ci cl) σ1 τ1) H → va_D (gA (xa ad) s.heap.size) ((xw ad ci cl) σ1 τ1) → va_S (gA (xa ad) s.heap.size) s.heap H locs → lv_has ls 12 [(1, .ref (ad 1)), (2, .ref (ad 8)), (3, .ref (ad 17)), (4, .int w4), (5, .int w5)] → W p l e rm_Planner_travelOf s m [.ref (ad 19), .ref (ad 1), .ref (ad 8), .ref (ad 17), .int a4, .int a5].toArray below meth c H locs 0 0 (gQi D (xw ad ci cl) (xt ci cl) (xa ad) below [.ref (ad 19), .ref (ad 1), .ref (ad 8), .ref (ad 17), .int a4, .int a5] s (post σ0 τ0 a4 a5)) (F0 m 22 ls []) := by
    intro w4 w5 σ1 τ1 H locs ls hv hP hD hS hl
    unfold s_Planner_travelOf_22 at hv
    refine lv_aload_n hx hb d_Planner_travelOf_22 rfl (lv_at hl 0 rfl) ?_
    refine va_get (D := D) (ci := 1) (v := .ref (ad 5)) (C := R_People) (T := F_People) (N := 7) hx hb hts iw_People hown hK hP 1 rfl rfl 4 (by decide) (hts _ t_w89) (fun _ h9 => h9) rfl d_Planner_travelOf_23 ?_
    refine lv_iload hx hb d_Planner_travelOf_26 (lv_at hl 3 rfl) ?_
    obtain ⟨hi, hv⟩ := hv
    refine va_iald hx hb hK hP 5 0 rfl rfl hi d_Planner_travelOf_28 ?_
    refine lv_topi (fun y29 ey29 => ?_)
    replace hv := hv y29 ey29
    refine lv_istore (lv' := [(6, .int y29), (1, .ref (ad 1)), (2, .ref (ad 8)), (3, .ref (ad 17)), (4, .int w4), (5, .int w5)]) hx hb d_Planner_travelOf_29 hl (by decide) rfl (fun ls hl => ?_)
    refine lv_aload_n hx hb d_Planner_travelOf_31 rfl (lv_at hl 1 rfl) ?_
    refine va_get (D := D) (ci := 1) (v := .ref (ad 3)) (C := R_People) (T := F_People) (N := 7) hx hb hts iw_People hown hK hP 1 rfl rfl 2 (by decide) (hts _ t_w90) (fun _ h9 => h9) rfl d_Planner_travelOf_32 ?_
    refine lv_iload hx hb d_Planner_travelOf_35 (lv_at hl 4 rfl) ?_
    obtain ⟨hi, hv⟩ := hv
    refine va_iald hx hb hK hP 3 0 rfl rfl hi d_Planner_travelOf_37 ?_
    refine lv_topi (fun y38 ey38 => ?_)
    replace hv := hv y38 ey38
    refine lv_istore (lv' := [(7, .int y38), (6, .int y29), (1, .ref (ad 1)), (2, .ref (ad 8)), (3, .ref (ad 17)), (4, .int w4), (5, .int w5)]) hx hb d_Planner_travelOf_38 hl (by decide) rfl (fun ls hl => ?_)
    refine lv_iconst (v := 0) hx hb d_Planner_travelOf_40 (by decide) ?_
    refine lv_istore (lv' := [(8, .int 0), (7, .int y38), (6, .int y29), (1, .ref (ad 1)), (2, .ref (ad 8)), (3, .ref (ad 17)), (4, .int w4), (5, .int w5)]) hx hb d_Planner_travelOf_41 hl (by decide) rfl (fun ls hl => ?_)
    refine lv_iconst (v := 0) hx hb d_Planner_travelOf_43 (by decide) ?_
    refine lv_istore (lv' := [(9, .int 0), (8, .int 0), (7, .int y38), (6, .int y29), (1, .ref (ad 1)), (2, .ref (ad 8)), (3, .ref (ad 17)), (4, .int w4), (5, .int w5)]) hx hb d_Planner_travelOf_44 hl (by decide) rfl (fun ls hl => ?_)
    exact (hL _) w4 w5 y29 y38 0 0 σ1 τ1 _ _ _ (Nat.lt_succ_self _) hv hP hD hS (lv_sub hl [4, 5, 6, 7, 8, 3, 2, 1, 0] rfl)
  refine lv_aload_n hx hb d_Planner_travelOf_0 rfl (lv_at hl 1 rfl) ?_
  refine va_get (D := D) (ci := 1) (v := .ref (ad 6)) (C := R_People) (T := F_People) (N := 7) hx hb hts iw_People hown hK hP 1 rfl rfl 5 (by decide) (hts _ t_w88) (fun _ h9 => h9) rfl d_Planner_travelOf_1 ?_
  refine lv_iload hx hb d_Planner_travelOf_4 (lv_at hl 4 rfl) ?_
  obtain ⟨hi, hv⟩ := hv
  refine va_iald hx hb hK hP 6 0 rfl rfl hi d_Planner_travelOf_6 ?_
  refine lv_iconst (v := 2) hx hb d_Planner_travelOf_7 (by decide) ?_
  refine lv_icmp_ne (tgt := 22) hx hb d_Planner_travelOf_8 (by decide) (fun hc => ?_) (fun hc => ?_)
  · replace hv := hv.1 hc
    exact j22 a4 a5 σ0 τ0 _ _ _ hv hP hD hS (lv_sub hl [1, 2, 3, 4, 5] rfl)
  · replace hv := hv.2 hc
    refine lv_iload hx hb d_Planner_travelOf_11 (lv_at hl 5 rfl) ?_
    obtain ⟨hg, hv⟩ := hv
    refine gk_callSi (As := [.int a5]) (rest := []) ⟨hx, hb, hml, hown, hts⟩ (h_Integer_bitCount _ σ0 τ0 a5 hg) (gk_cwS 1 hts t_w80 rfl rfl rfl (hts _ t_w77) (hts _ t_w78) (hts _ t_w79) (by decide +kernel) ⟨Nat.le_of_ble_eq_true rfl, Nat.le_of_ble_eq_true rfl⟩) hK hP hD hS rfl hl.1 rfl (lv_room (Nat.le_of_ble_eq_true rfl)) d_Planner_travelOf_13 ⟨Nat.zero_le _, Nat.zero_le _⟩ ?_
    intro r13 s13 t13 H locs hw hP hD hS
    replace hv := hv r13 s13 t13 hw
    refine lv_iconst (v := 2) hx hb d_Planner_travelOf_16 (by decide) ?_
    refine lv_icmp_le (tgt := 22) hx hb d_Planner_travelOf_17 (by decide) (fun hc => ?_) (fun hc => ?_)
    · replace hv := hv.1 hc
      exact j22 a4 a5 s13 t13 _ _ _ hv hP hD hS (lv_sub hl [1, 2, 3, 4, 5] rfl)
    · replace hv := hv.2 hc
      refine lv_iconst (v := (-1)) hx hb d_Planner_travelOf_20 (by decide) ?_
      exact gk_iret hx hb hr hlocks hK hP hD hS hv d_Planner_travelOf_21
theorem d_Planner_costOwn_0 : decode b_Planner_costOwn 0 = .ok (.iconst 1, 1) := by decide +kernel
theorem d_Planner_costOwn_1 : decode b_Planner_costOwn 1 = .ok (.aload_n 2, 1) := by decide +kernel
theorem d_Planner_costOwn_2 : decode b_Planner_costOwn 2 = .ok (.getfield 18, 3) := by decide +kernel
theorem d_Planner_costOwn_5 : decode b_Planner_costOwn 5 = .ok (.ishl, 1) := by decide +kernel
theorem d_Planner_costOwn_6 : decode b_Planner_costOwn 6 = .ok (.istore 5, 2) := by decide +kernel
theorem d_Planner_costOwn_8 : decode b_Planner_costOwn 8 = .ok (.iconst 0, 1) := by decide +kernel
theorem d_Planner_costOwn_9 : decode b_Planner_costOwn 9 = .ok (.istore 6, 2) := by decide +kernel
theorem d_Planner_costOwn_11 : decode b_Planner_costOwn 11 = .ok (.iload 6, 2) := by decide +kernel
theorem d_Planner_costOwn_13 : decode b_Planner_costOwn 13 = .ok (.iload 5, 2) := by decide +kernel
theorem d_Planner_costOwn_15 : decode b_Planner_costOwn 15 = .ok (.if_icmp .ge 66, 3) := by decide +kernel
theorem d_Planner_costOwn_18 : decode b_Planner_costOwn 18 = .ok (.aload_n 0, 1) := by decide +kernel
theorem d_Planner_costOwn_19 : decode b_Planner_costOwn 19 = .ok (.aload_n 1, 1) := by decide +kernel
theorem d_Planner_costOwn_20 : decode b_Planner_costOwn 20 = .ok (.aload_n 2, 1) := by decide +kernel
theorem d_Planner_costOwn_21 : decode b_Planner_costOwn 21 = .ok (.aload_n 3, 1) := by decide +kernel
theorem d_Planner_costOwn_22 : decode b_Planner_costOwn 22 = .ok (.iload 4, 2) := by decide +kernel
theorem d_Planner_costOwn_24 : decode b_Planner_costOwn 24 = .ok (.iload 6, 2) := by decide +kernel
theorem d_Planner_costOwn_26 : decode b_Planner_costOwn 26 = .ok (.invokevirtual 93, 3) := by decide +kernel
theorem d_Planner_costOwn_29 : decode b_Planner_costOwn 29 = .ok (.istore 7, 2) := by decide +kernel
theorem d_Planner_costOwn_31 : decode b_Planner_costOwn 31 = .ok (.iload 7, 2) := by decide +kernel
theorem d_Planner_costOwn_33 : decode b_Planner_costOwn 33 = .ok (.iconst (-1), 1) := by decide +kernel
theorem d_Planner_costOwn_34 : decode b_Planner_costOwn 34 = .ok (.if_icmp .ne 16, 3) := by decide +kernel
theorem d_Planner_costOwn_37 : decode b_Planner_costOwn 37 = .ok (.aload_n 0, 1) := by decide +kernel
theorem d_Planner_costOwn_38 : decode b_Planner_costOwn 38 = .ok (.getfield 15, 3) := by decide +kernel
theorem d_Planner_costOwn_41 : decode b_Planner_costOwn 41 = .ok (.iload 6, 2) := by decide +kernel
theorem d_Planner_costOwn_43 : decode b_Planner_costOwn 43 = .ok (.ldc2_w 97, 3) := by decide +kernel
theorem d_Planner_costOwn_46 : decode b_Planner_costOwn 46 = .ok (.lastore, 1) := by decide +kernel
theorem d_Planner_costOwn_47 : decode b_Planner_costOwn 47 = .ok (.goto 28, 3) := by decide +kernel
theorem d_Planner_costOwn_50 : decode b_Planner_costOwn 50 = .ok (.aload_n 0, 1) := by decide +kernel
theorem d_Planner_costOwn_51 : decode b_Planner_costOwn 51 = .ok (.getfield 15, 3) := by decide +kernel
theorem d_Planner_costOwn_54 : decode b_Planner_costOwn 54 = .ok (.iload 6, 2) := by decide +kernel
theorem d_Planner_costOwn_56 : decode b_Planner_costOwn 56 = .ok (.iload 7, 2) := by decide +kernel
theorem d_Planner_costOwn_58 : decode b_Planner_costOwn 58 = .ok (.i2l, 1) := by decide +kernel
theorem d_Planner_costOwn_59 : decode b_Planner_costOwn 59 = .ok (.bipush 21, 2) := by decide +kernel
theorem d_Planner_costOwn_61 : decode b_Planner_costOwn 61 = .ok (.lshl, 1) := by decide +kernel
theorem d_Planner_costOwn_62 : decode b_Planner_costOwn 62 = .ok (.iload 6, 2) := by decide +kernel
theorem d_Planner_costOwn_64 : decode b_Planner_costOwn 64 = .ok (.aload_n 2, 1) := by decide +kernel
theorem d_Planner_costOwn_65 : decode b_Planner_costOwn 65 = .ok (.getfield 18, 3) := by decide +kernel
theorem d_Planner_costOwn_68 : decode b_Planner_costOwn 68 = .ok (.iload 4, 2) := by decide +kernel
theorem d_Planner_costOwn_70 : decode b_Planner_costOwn 70 = .ok (.invokestatic 89, 3) := by decide +kernel
theorem d_Planner_costOwn_73 : decode b_Planner_costOwn 73 = .ok (.ladd, 1) := by decide +kernel
theorem d_Planner_costOwn_74 : decode b_Planner_costOwn 74 = .ok (.lastore, 1) := by decide +kernel
theorem d_Planner_costOwn_75 : decode b_Planner_costOwn 75 = .ok (.iinc 6 1, 3) := by decide +kernel
theorem d_Planner_costOwn_78 : decode b_Planner_costOwn 78 = .ok (.goto (-67), 3) := by decide +kernel
theorem d_Planner_costOwn_81 : decode b_Planner_costOwn 81 = .ok (.return_, 1) := by decide +kernel
def s_Planner_costOwn_0 (P_Planner_travelOf : MI → ML → Int32 → Int32 → Prop) (Q_Planner_travelOf : MI → ML → Int32 → Int32 → Int32 → MI → ML → Prop) (P_Planner_digits : MI → ML → Int32 → Int32 → Int32 → Prop) (Q_Planner_digits : MI → ML → Int32 → Int32 → Int32 → Int64 → MI → ML → Prop) (σ : MI) (τ : ML) (a4 : Int32) (K11 : Int32 → Int32 → Int32 → MI → ML → Prop) (R : MI → ML → Prop) : Prop :=
  ∀ y6 : Int32, y6 = 1 <<< ((σ 8 0) &&& 31) → (K11 a4 y6 0 σ τ)
def s_Planner_costOwn_11 (P_Planner_travelOf : MI → ML → Int32 → Int32 → Prop) (Q_Planner_travelOf : MI → ML → Int32 → Int32 → Int32 → MI → ML → Prop) (P_Planner_digits : MI → ML → Int32 → Int32 → Int32 → Prop) (Q_Planner_digits : MI → ML → Int32 → Int32 → Int32 → Int64 → MI → ML → Prop) (σ : MI) (τ : ML) (x4 : Int32) (x5 : Int32) (x6 : Int32) (K11 : Int32 → Int32 → Int32 → MI → ML → Prop) (R : MI → ML → Prop) : Prop :=
  (x5 ≤ x6 →
  (R σ τ)) ∧
  (¬ x5 ≤ x6 →
  (P_Planner_travelOf σ τ x4 x6 ∧ ∀ (r26 : Int32) (s26 : MI) (t26 : ML), Q_Planner_travelOf σ τ x4 x6 r26 s26 t26 → ((¬ r26 = ((-1)) →
    (P_Planner_digits s26 t26 x6 (s26 8 0) x4 ∧ ∀ (r70 : Int64) (s70 : MI) (t70 : ML), Q_Planner_digits s26 t26 x6 (s26 8 0) x4 r70 s70 t70 → (vp_in x6 128 ∧ (∀ t74 : ML, t74 = sl2 t70 21 (Int32.toNatClampNeg x6) (((Int32.toInt64 r26) <<< ((Int32.toInt64 21) &&& 63)) + r70) → (∀ y75 : Int32, y75 = x6 + 1 → (K11 x4 x5 y75 s70 t74)))))) ∧
    (r26 = ((-1)) →
    (vp_in x6 128 ∧ (∀ t46 : ML, t46 = sl2 t26 21 (Int32.toNatClampNeg x6) ((-1)) → (∀ y75 : Int32, y75 = x6 + 1 → (K11 x4 x5 y75 s26 t46))))))))
set_option maxHeartbeats 4000000 in
set_option maxRecDepth 100000 in
theorem k_Planner_costOwn (l : Launch) (D : va_G) (ad : Nat → Nat) (ci cl : ClassId)
    (pre : MI → ML → Int32 → Prop) (post : MI → ML → Int32 → MI → ML → Prop) (P_Planner_travelOf : MI → ML → Int32 → Int32 → Prop) (Q_Planner_travelOf : MI → ML → Int32 → Int32 → Int32 → MI → ML → Prop) (P_Planner_digits : MI → ML → Int32 → Int32 → Int32 → Prop) (Q_Planner_digits : MI → ML → Int32 → Int32 → Int32 → Int64 → MI → ML → Prop)
    (h_Planner_travelOf : ∀ (sz : Nat) (σ : MI) (τ : ML) (b0 : Int32) (b1 : Int32), P_Planner_travelOf σ τ b0 b1 → gMi l D (xw ad ci cl) (xt ci cl) (xa ad) y_Planner_travelOf w_Planner_travelOf rm_Planner_travelOf [.ref (ad 19), .ref (ad 1), .ref (ad 8), .ref (ad 17), .int b0, .int b1] sz σ τ (Q_Planner_travelOf σ τ b0 b1))
    (h_Planner_digits : ∀ (sz : Nat) (σ : MI) (τ : ML) (b0 : Int32) (b1 : Int32) (b2 : Int32), P_Planner_digits σ τ b0 b1 b2 → gMl l D (xw ad ci cl) (xt ci cl) (xa ad) y_Planner_digits w_Planner_digits rm_Planner_digits [.int b0, .int b1, .int b2] sz σ τ (Q_Planner_digits σ τ b0 b1 b2))
    (I11 : MI → ML → Int32 → Int32 → Int32 → Int32 → MI → ML → Prop) (m11 : MI → ML → Int32 → Int32 → Int32 → Int32 → MI → ML → Nat)
    (v0 : ∀ (σ0 : MI) (τ0 : ML) (a4 : Int32), pre σ0 τ0 a4 → s_Planner_costOwn_0 P_Planner_travelOf Q_Planner_travelOf P_Planner_digits Q_Planner_digits σ0 τ0 a4 (fun z0 z1 z2 σ9 τ9 => I11 σ0 τ0 a4 z0 z1 z2 σ9 τ9) (post σ0 τ0 a4))
    (v11 : ∀ (σ0 : MI) (τ0 : ML) (a4 : Int32) (x4 : Int32) (x5 : Int32) (x6 : Int32) (σ : MI) (τ : ML), I11 σ0 τ0 a4 x4 x5 x6 σ τ → s_Planner_costOwn_11 P_Planner_travelOf Q_Planner_travelOf P_Planner_digits Q_Planner_digits σ τ x4 x5 x6 (fun z0 z1 z2 σ9 τ9 => I11 σ0 τ0 a4 z0 z1 z2 σ9 τ9 ∧ m11 σ0 τ0 a4 z0 z1 z2 σ9 τ9 < m11 σ0 τ0 a4 x4 x5 x6 σ τ) (post σ0 τ0 a4)) :
    ∀ (sz : Nat) (σ0 : MI) (τ0 : ML) (a4 : Int32), pre σ0 τ0 a4 → gMv l D (xw ad ci cl) (xt ci cl) (xa ad) y_Planner_costOwn w_Planner_costOwn rm_Planner_costOwn [.ref (ad 19), .ref (ad 1), .ref (ad 8), .ref (ad 17), .int a4] sz σ0 τ0 (post σ0 τ0 a4) := by
  intro sz σ0 τ0 a4 hpre
  refine gk_ofWv (cc := b_Planner_costOwn) (maxL := 8) (ret := none) (by decide) rfl xa_ok (Nat.le_of_ble_eq_true rfl) ?_
  intro p e s m below meth c ls hx hb hr hlocks hml hown hts hK hP hD hS hl
  have hl : lv_has ls 8 [(0, .ref (ad 19)), (1, .ref (ad 1)), (2, .ref (ad 8)), (3, .ref (ad 17)), (4, .int a4)] := hl
  have hown : s.vm.findClass R_Planner = some m.cls := hown
  have hL : ∀ n : Nat, (∀ (x4 : Int32) (x5 : Int32) (x6 : Int32) (σ : MI) (τ : ML) (H : Heap) (locs : List Loc) (ls : Array Slot), m11 σ0 τ0 a4 x4 x5 x6 σ τ < n → I11 σ0 τ0 a4 x4 x5 x6 σ τ → va_P D classes ((xw ad ci cl) σ τ) H → va_D (gA (xa ad) s.heap.size) ((xw ad ci cl) σ τ) → va_S (gA (xa ad) s.heap.size) s.heap H locs → lv_has ls 8 [(0, .ref (ad 19)), (1, .ref (ad 1)), (2, .ref (ad 8)), (3, .ref (ad 17)), (4, .int x4), (5, .int x5), (6, .int x6)] → W p l e rm_Planner_costOwn s m [.ref (ad 19), .ref (ad 1), .ref (ad 8), .ref (ad 17), .int a4].toArray below meth c H locs 0 0 (gQv D (xw ad ci cl) (xt ci cl) (xa ad) below [.ref (ad 19), .ref (ad 1), .ref (ad 8), .ref (ad 17), .int a4] s (post σ0 τ0 a4)) (F0 m 11 ls [])) := by
    intro n
    induction n with
    | zero => exact fun _ _ _ _ _ _ _ _ hn => absurd hn (Nat.not_lt_zero _)
    | succ n ih =>
      · intro x4 x5 x6 σ τ H locs ls hn hI hP hD hS hl
        have hv := v11 σ0 τ0 a4 x4 x5 x6 σ τ hI
        unfold s_Planner_costOwn_11 at hv
        refine lv_iload hx hb d_Planner_costOwn_11 (lv_at hl 6 rfl) ?_
        refine lv_iload hx hb d_Planner_costOwn_13 (lv_at hl 5 rfl) ?_
        refine lv_icmp_ge (tgt := 81) hx hb d_Planner_costOwn_15 (by decide) (fun hc => ?_) (fun hc => ?_)
        · replace hv := hv.1 hc
          exact gk_vret hx hb hr hlocks hK hP hD hS hv d_Planner_costOwn_81
        · replace hv := hv.2 hc
          refine lv_aload_n hx hb d_Planner_costOwn_18 rfl (lv_at hl 0 rfl) ?_
          refine lv_aload_n hx hb d_Planner_costOwn_19 rfl (lv_at hl 1 rfl) ?_
          refine lv_aload_n hx hb d_Planner_costOwn_20 rfl (lv_at hl 2 rfl) ?_
          refine lv_aload_n hx hb d_Planner_costOwn_21 rfl (lv_at hl 3 rfl) ?_
          refine lv_iload hx hb d_Planner_costOwn_22 (lv_at hl 4 rfl) ?_
          refine lv_iload hx hb d_Planner_costOwn_24 (lv_at hl 6 rfl) ?_
          obtain ⟨hg, hv⟩ := hv
          refine gk_callVi (As := [.ref (ad 1), .ref (ad 8), .ref (ad 17), .int x4, .int x6]) (rest := []) (b := ad 19) ⟨hx, hb, hml, hown, hts⟩ (h_Planner_travelOf _ σ τ x4 x6 hg) (gk_cwV 5 hts t_w108 rfl rfl rfl (hts _ t_w105) (hts _ t_w106) (hts _ t_w107) (hts _ t_w75) (by decide +kernel) ⟨Nat.le_of_ble_eq_true rfl, Nat.le_of_ble_eq_true rfl⟩) hK hP hD hS (va_recv hK hP (ci := 3) (q0 := 19) rfl rfl) rfl hl.1 rfl (lv_room (Nat.le_of_ble_eq_true rfl)) d_Planner_costOwn_26 ⟨Nat.zero_le _, Nat.zero_le _⟩ ?_
          intro r26 s26 t26 H locs hw hP hD hS
          replace hv := hv r26 s26 t26 hw
          refine lv_istore (lv' := [(7, .int r26), (0, .ref (ad 19)), (1, .ref (ad 1)), (2, .ref (ad 8)), (3, .ref (ad 17)), (4, .int x4), (5, .int x5), (6, .int x6)]) hx hb d_Planner_costOwn_29 hl (by decide) rfl (fun ls hl => ?_)
          refine lv_iload hx hb d_Planner_costOwn_31 (lv_at hl 0 rfl) ?_
          refine lv_iconst (v := (-1)) hx hb d_Planner_costOwn_33 (by decide) ?_
          refine lv_icmp_ne (tgt := 50) hx hb d_Planner_costOwn_34 (by decide) (fun hc => ?_) (fun hc => ?_)
          · replace hv := hv.1 hc
            refine lv_aload_n hx hb d_Planner_costOwn_50 rfl (lv_at hl 1 rfl) ?_
            refine va_get (D := D) (ci := 3) (v := .ref (ad 21)) (C := R_Planner) (T := F_Planner) (N := 2) hx hb hts iw_Planner hown hK hP 19 rfl rfl 1 (by decide) (hts _ t_w109) (fun _ h9 => h9) rfl d_Planner_costOwn_51 ?_
            refine lv_iload hx hb d_Planner_costOwn_54 (lv_at hl 7 rfl) ?_
            refine lv_iload hx hb d_Planner_costOwn_56 (lv_at hl 0 rfl) ?_
            refine lv_i2l hx hb d_Planner_costOwn_58 rfl ?_
            refine lv_bipush (v := 21) hx hb d_Planner_costOwn_59 (by decide) ?_
            refine lv_lshl hx hb d_Planner_costOwn_61 rfl ?_
            refine lv_iload hx hb d_Planner_costOwn_62 (lv_at hl 7 rfl) ?_
            refine lv_aload_n hx hb d_Planner_costOwn_64 rfl (lv_at hl 3 rfl) ?_
            refine va_get (D := D) (ci := 0) (v := .int (s26 8 0)) (C := R_Jobs) (T := F_Jobs) (N := 7) hx hb hts iw_Jobs hown hK hP 8 rfl rfl 0 (by decide) (hts _ t_w91) (fun _ h9 => h9) rfl d_Planner_costOwn_65 ?_
            refine lv_iload hx hb d_Planner_costOwn_68 (lv_at hl 5 rfl) ?_
            obtain ⟨hg, hv⟩ := hv
            refine gk_callSl (As := [.int x6, .int (s26 8 0), .int x4]) (rest := [.long ((Int32.toInt64 r26) <<< ((Int32.toInt64 21) &&& 63)), .int x6, .ref (ad 21)]) ⟨hx, hb, hml, hown, hts⟩ (h_Planner_digits _ s26 t26 x6 (s26 8 0) x4 hg) (gk_cwS 3 hts t_w84 rfl rfl rfl (hts _ t_w82) (hts _ t_w83) (hts _ t_w75) (by decide +kernel) ⟨Nat.le_of_ble_eq_true rfl, Nat.le_of_ble_eq_true rfl⟩) hK hP hD hS rfl hl.1 rfl (lv_room (Nat.le_of_ble_eq_true rfl)) d_Planner_costOwn_70 ⟨Nat.zero_le _, Nat.zero_le _⟩ ?_
            intro r70 s70 t70 H locs hw hP hD hS
            replace hv := hv r70 s70 t70 hw
            refine lv_ladd hx hb d_Planner_costOwn_73 ?_
            obtain ⟨hi, hv⟩ := hv
            refine va_last hx hb hK hP hD hS 21 1 rfl rfl hi d_Planner_costOwn_74 (fun H locs hP hD hS => ?_)
            rw [xa_21] at hP hD
            obtain ⟨t74, et74⟩ : ∃ z : ML, z = sl2 t70 21 (Int32.toNatClampNeg x6) (((Int32.toInt64 r26) <<< ((Int32.toInt64 21) &&& 63)) + r70) := ⟨_, rfl⟩
            rw [← et74] at hP hD
            replace hv := hv t74 et74
            obtain ⟨y75, ey75⟩ : ∃ z : Int32, z = x6 + 1 := ⟨_, rfl⟩
            replace hv := hv y75 ey75
            refine lv_iinc (v := y75) (lv' := [(6, .int y75), (7, .int r26), (0, .ref (ad 19)), (1, .ref (ad 1)), (2, .ref (ad 8)), (3, .ref (ad 17)), (4, .int x4), (5, .int x5)]) hx hb d_Planner_costOwn_75 hl (k := 7) rfl (by rw [ey75]; rfl) (by decide) rfl (fun ls hl => ?_)
            refine lv_goto (tgt := 11) hx hb d_Planner_costOwn_78 (by decide) ?_
            obtain ⟨hI, hm⟩ := hv
            exact ih x4 x5 y75 s70 t74 _ _ _ (Nat.lt_of_lt_of_le hm (Nat.le_of_lt_succ hn)) hI hP hD hS (lv_sub hl [2, 3, 4, 5, 6, 7, 0] rfl)
          · replace hv := hv.2 hc
            refine lv_aload_n hx hb d_Planner_costOwn_37 rfl (lv_at hl 1 rfl) ?_
            refine va_get (D := D) (ci := 3) (v := .ref (ad 21)) (C := R_Planner) (T := F_Planner) (N := 2) hx hb hts iw_Planner hown hK hP 19 rfl rfl 1 (by decide) (hts _ t_w109) (fun _ h9 => h9) rfl d_Planner_costOwn_38 ?_
            refine lv_iload hx hb d_Planner_costOwn_41 (lv_at hl 7 rfl) ?_
            refine lv_ldc2 (v := (-1)) hx hb hown (hts _ t_w110) d_Planner_costOwn_43 ?_
            obtain ⟨hi, hv⟩ := hv
            refine va_last hx hb hK hP hD hS 21 1 rfl rfl hi d_Planner_costOwn_46 (fun H locs hP hD hS => ?_)
            rw [xa_21] at hP hD
            obtain ⟨t46, et46⟩ : ∃ z : ML, z = sl2 t26 21 (Int32.toNatClampNeg x6) ((-1)) := ⟨_, rfl⟩
            rw [← et46] at hP hD
            replace hv := hv t46 et46
            refine lv_goto (tgt := 75) hx hb d_Planner_costOwn_47 (by decide) ?_
            obtain ⟨y75, ey75⟩ : ∃ z : Int32, z = x6 + 1 := ⟨_, rfl⟩
            replace hv := hv y75 ey75
            refine lv_iinc (v := y75) (lv' := [(6, .int y75), (7, .int r26), (0, .ref (ad 19)), (1, .ref (ad 1)), (2, .ref (ad 8)), (3, .ref (ad 17)), (4, .int x4), (5, .int x5)]) hx hb d_Planner_costOwn_75 hl (k := 7) rfl (by rw [ey75]; rfl) (by decide) rfl (fun ls hl => ?_)
            refine lv_goto (tgt := 11) hx hb d_Planner_costOwn_78 (by decide) ?_
            obtain ⟨hI, hm⟩ := hv
            exact ih x4 x5 y75 s26 t46 _ _ _ (Nat.lt_of_lt_of_le hm (Nat.le_of_lt_succ hn)) hI hP hD hS (lv_sub hl [2, 3, 4, 5, 6, 7, 0] rfl)
  have hv := v0 σ0 τ0 a4 hpre
  unfold s_Planner_costOwn_0 at hv
  refine lv_iconst (v := 1) hx hb d_Planner_costOwn_0 (by decide) ?_
  refine lv_aload_n hx hb d_Planner_costOwn_1 rfl (lv_at hl 2 rfl) ?_
  refine va_get (D := D) (ci := 0) (v := .int (σ0 8 0)) (C := R_Jobs) (T := F_Jobs) (N := 7) hx hb hts iw_Jobs hown hK hP 8 rfl rfl 0 (by decide) (hts _ t_w91) (fun _ h9 => h9) rfl d_Planner_costOwn_2 ?_
  refine lv_ishl hx hb d_Planner_costOwn_5 ?_
  refine lv_topi (fun y6 ey6 => ?_)
  replace hv := hv y6 ey6
  refine lv_istore (lv' := [(5, .int y6), (0, .ref (ad 19)), (1, .ref (ad 1)), (2, .ref (ad 8)), (3, .ref (ad 17)), (4, .int a4)]) hx hb d_Planner_costOwn_6 hl (by decide) rfl (fun ls hl => ?_)
  refine lv_iconst (v := 0) hx hb d_Planner_costOwn_8 (by decide) ?_
  refine lv_istore (lv' := [(6, .int 0), (5, .int y6), (0, .ref (ad 19)), (1, .ref (ad 1)), (2, .ref (ad 8)), (3, .ref (ad 17)), (4, .int a4)]) hx hb d_Planner_costOwn_9 hl (by decide) rfl (fun ls hl => ?_)
  exact (hL _) a4 y6 0 σ0 τ0 _ _ _ (Nat.lt_succ_self _) hv hP hD hS (lv_sub hl [2, 3, 4, 5, 6, 1, 0] rfl)
theorem d_Planner_joinOwn_0 : decode b_Planner_joinOwn 0 = .ok (.iload_n 1, 1) := by decide +kernel
theorem d_Planner_joinOwn_1 : decode b_Planner_joinOwn 1 = .ok (.iconst 1, 1) := by decide +kernel
theorem d_Planner_joinOwn_2 : decode b_Planner_joinOwn 2 = .ok (.isub, 1) := by decide +kernel
theorem d_Planner_joinOwn_3 : decode b_Planner_joinOwn 3 = .ok (.istore_n 2, 1) := by decide +kernel
theorem d_Planner_joinOwn_4 : decode b_Planner_joinOwn 4 = .ok (.iload_n 2, 1) := by decide +kernel
theorem d_Planner_joinOwn_5 : decode b_Planner_joinOwn 5 = .ok (.ifCond .le 78, 3) := by decide +kernel
theorem d_Planner_joinOwn_8 : decode b_Planner_joinOwn 8 = .ok (.aload_n 0, 1) := by decide +kernel
theorem d_Planner_joinOwn_9 : decode b_Planner_joinOwn 9 = .ok (.getfield 11, 3) := by decide +kernel
theorem d_Planner_joinOwn_12 : decode b_Planner_joinOwn 12 = .ok (.iload_n 2, 1) := by decide +kernel
theorem d_Planner_joinOwn_13 : decode b_Planner_joinOwn 13 = .ok (.laload, 1) := by decide +kernel
theorem d_Planner_joinOwn_14 : decode b_Planner_joinOwn 14 = .ok (.lstore_n 3, 1) := by decide +kernel
theorem d_Planner_joinOwn_15 : decode b_Planner_joinOwn 15 = .ok (.iload_n 2, 1) := by decide +kernel
theorem d_Planner_joinOwn_16 : decode b_Planner_joinOwn 16 = .ok (.istore 5, 2) := by decide +kernel
theorem d_Planner_joinOwn_18 : decode b_Planner_joinOwn 18 = .ok (.iload 5, 2) := by decide +kernel
theorem d_Planner_joinOwn_20 : decode b_Planner_joinOwn 20 = .ok (.ifCond .le 50, 3) := by decide +kernel
theorem d_Planner_joinOwn_23 : decode b_Planner_joinOwn 23 = .ok (.aload_n 0, 1) := by decide +kernel
theorem d_Planner_joinOwn_24 : decode b_Planner_joinOwn 24 = .ok (.getfield 15, 3) := by decide +kernel
theorem d_Planner_joinOwn_27 : decode b_Planner_joinOwn 27 = .ok (.iload 5, 2) := by decide +kernel
theorem d_Planner_joinOwn_29 : decode b_Planner_joinOwn 29 = .ok (.laload, 1) := by decide +kernel
theorem d_Planner_joinOwn_30 : decode b_Planner_joinOwn 30 = .ok (.ldc2_w 97, 3) := by decide +kernel
theorem d_Planner_joinOwn_33 : decode b_Planner_joinOwn 33 = .ok (.lcmp, 1) := by decide +kernel
theorem d_Planner_joinOwn_34 : decode b_Planner_joinOwn 34 = .ok (.ifCond .eq 25, 3) := by decide +kernel
theorem d_Planner_joinOwn_37 : decode b_Planner_joinOwn 37 = .ok (.lload_n 3, 1) := by decide +kernel
theorem d_Planner_joinOwn_38 : decode b_Planner_joinOwn 38 = .ok (.aload_n 0, 1) := by decide +kernel
theorem d_Planner_joinOwn_39 : decode b_Planner_joinOwn 39 = .ok (.getfield 15, 3) := by decide +kernel
theorem d_Planner_joinOwn_42 : decode b_Planner_joinOwn 42 = .ok (.iload 5, 2) := by decide +kernel
theorem d_Planner_joinOwn_44 : decode b_Planner_joinOwn 44 = .ok (.laload, 1) := by decide +kernel
theorem d_Planner_joinOwn_45 : decode b_Planner_joinOwn 45 = .ok (.aload_n 0, 1) := by decide +kernel
theorem d_Planner_joinOwn_46 : decode b_Planner_joinOwn 46 = .ok (.getfield 11, 3) := by decide +kernel
theorem d_Planner_joinOwn_49 : decode b_Planner_joinOwn 49 = .ok (.iload_n 2, 1) := by decide +kernel
theorem d_Planner_joinOwn_50 : decode b_Planner_joinOwn 50 = .ok (.iload 5, 2) := by decide +kernel
theorem d_Planner_joinOwn_52 : decode b_Planner_joinOwn 52 = .ok (.ixor, 1) := by decide +kernel
theorem d_Planner_joinOwn_53 : decode b_Planner_joinOwn 53 = .ok (.laload, 1) := by decide +kernel
theorem d_Planner_joinOwn_54 : decode b_Planner_joinOwn 54 = .ok (.ladd, 1) := by decide +kernel
theorem d_Planner_joinOwn_55 : decode b_Planner_joinOwn 55 = .ok (.invokestatic 99, 3) := by decide +kernel
theorem d_Planner_joinOwn_58 : decode b_Planner_joinOwn 58 = .ok (.lstore_n 3, 1) := by decide +kernel
theorem d_Planner_joinOwn_59 : decode b_Planner_joinOwn 59 = .ok (.iload 5, 2) := by decide +kernel
theorem d_Planner_joinOwn_61 : decode b_Planner_joinOwn 61 = .ok (.iconst 1, 1) := by decide +kernel
theorem d_Planner_joinOwn_62 : decode b_Planner_joinOwn 62 = .ok (.isub, 1) := by decide +kernel
theorem d_Planner_joinOwn_63 : decode b_Planner_joinOwn 63 = .ok (.iload_n 2, 1) := by decide +kernel
theorem d_Planner_joinOwn_64 : decode b_Planner_joinOwn 64 = .ok (.iand, 1) := by decide +kernel
theorem d_Planner_joinOwn_65 : decode b_Planner_joinOwn 65 = .ok (.istore 5, 2) := by decide +kernel
theorem d_Planner_joinOwn_67 : decode b_Planner_joinOwn 67 = .ok (.goto (-49), 3) := by decide +kernel
theorem d_Planner_joinOwn_70 : decode b_Planner_joinOwn 70 = .ok (.aload_n 0, 1) := by decide +kernel
theorem d_Planner_joinOwn_71 : decode b_Planner_joinOwn 71 = .ok (.getfield 11, 3) := by decide +kernel
theorem d_Planner_joinOwn_74 : decode b_Planner_joinOwn 74 = .ok (.iload_n 2, 1) := by decide +kernel
theorem d_Planner_joinOwn_75 : decode b_Planner_joinOwn 75 = .ok (.lload_n 3, 1) := by decide +kernel
theorem d_Planner_joinOwn_76 : decode b_Planner_joinOwn 76 = .ok (.lastore, 1) := by decide +kernel
theorem d_Planner_joinOwn_77 : decode b_Planner_joinOwn 77 = .ok (.iinc 2 (-1), 3) := by decide +kernel
theorem d_Planner_joinOwn_80 : decode b_Planner_joinOwn 80 = .ok (.goto (-76), 3) := by decide +kernel
theorem d_Planner_joinOwn_83 : decode b_Planner_joinOwn 83 = .ok (.return_, 1) := by decide +kernel
def s_Planner_joinOwn_59 (σ : MI) (τ : ML) (x2 : Int32) (x3 : Int64) (x5 : Int32) (K4 : Int32 → MI → ML → Prop) (K18 : Int32 → Int64 → Int32 → MI → ML → Prop) (R : MI → ML → Prop) : Prop :=
  ∀ y65 : Int32, y65 = (x5 - 1) &&& x2 → (K18 x2 x3 y65 σ τ)
def s_Planner_joinOwn_0 (σ : MI) (τ : ML) (a1 : Int32) (K4 : Int32 → MI → ML → Prop) (K18 : Int32 → Int64 → Int32 → MI → ML → Prop) (R : MI → ML → Prop) : Prop :=
  ∀ y3 : Int32, y3 = a1 - 1 → (K4 y3 σ τ)
def s_Planner_joinOwn_4 (σ : MI) (τ : ML) (x2 : Int32) (K4 : Int32 → MI → ML → Prop) (K18 : Int32 → Int64 → Int32 → MI → ML → Prop) (R : MI → ML → Prop) : Prop :=
  (x2 ≤ 0 →
  (R σ τ)) ∧
  (¬ x2 ≤ 0 →
  (vp_in x2 128 ∧ (∀ y14 : Int64, y14 = τ 20 (Int32.toNatClampNeg x2) → (K18 x2 y14 x2 σ τ))))
def s_Planner_joinOwn_18 (σ : MI) (τ : ML) (x2 : Int32) (x3 : Int64) (x5 : Int32) (K4 : Int32 → MI → ML → Prop) (K18 : Int32 → Int64 → Int32 → MI → ML → Prop) (R : MI → ML → Prop) : Prop :=
  (x5 ≤ 0 →
  (vp_in x2 128 ∧ (∀ t76 : ML, t76 = sl2 τ 20 (Int32.toNatClampNeg x2) x3 → (∀ y77 : Int32, y77 = x2 + (-1) → (K4 y77 σ t76))))) ∧
  (¬ x5 ≤ 0 →
  (vp_in x5 128 ∧ (((lg_cmp (τ 21 (Int32.toNatClampNeg x5)) ((-1))) = 0 →
    (s_Planner_joinOwn_59 σ τ x2 x3 x5 K4 K18 R)) ∧
    (¬ (lg_cmp (τ 21 (Int32.toNatClampNeg x5)) ((-1))) = 0 →
    (vp_in x5 128 ∧ (vp_in (x2 ^^^ x5) 128 ∧ (∀ y58 : Int64, y58 = (if ((τ 21 (Int32.toNatClampNeg x5)) + (τ 20 (Int32.toNatClampNeg (x2 ^^^ x5)))) < x3 then ((τ 21 (Int32.toNatClampNeg x5)) + (τ 20 (Int32.toNatClampNeg (x2 ^^^ x5)))) else x3) → (s_Planner_joinOwn_59 σ τ x2 y58 x5 K4 K18 R))))))))
set_option maxHeartbeats 4000000 in
set_option maxRecDepth 100000 in
theorem k_Planner_joinOwn (l : Launch) (D : va_G) (ad : Nat → Nat) (ci cl : ClassId)
    (pre : MI → ML → Int32 → Prop) (post : MI → ML → Int32 → MI → ML → Prop)
    (I4 : MI → ML → Int32 → Int32 → MI → ML → Prop) (m4 : MI → ML → Int32 → Int32 → MI → ML → Nat)
    (I18 : MI → ML → Int32 → Int32 → Int64 → Int32 → MI → ML → Prop) (m18 : MI → ML → Int32 → Int32 → Int64 → Int32 → MI → ML → Nat)
    (v0 : ∀ (σ0 : MI) (τ0 : ML) (a1 : Int32), pre σ0 τ0 a1 → s_Planner_joinOwn_0 σ0 τ0 a1 (fun z0 σ9 τ9 => I4 σ0 τ0 a1 z0 σ9 τ9) (fun z0 z1 z2 σ9 τ9 => I18 σ0 τ0 a1 z0 z1 z2 σ9 τ9) (post σ0 τ0 a1))
    (v4 : ∀ (σ0 : MI) (τ0 : ML) (a1 : Int32) (x2 : Int32) (σ : MI) (τ : ML), I4 σ0 τ0 a1 x2 σ τ → s_Planner_joinOwn_4 σ τ x2 (fun z0 σ9 τ9 => I4 σ0 τ0 a1 z0 σ9 τ9 ∧ m4 σ0 τ0 a1 z0 σ9 τ9 < m4 σ0 τ0 a1 x2 σ τ) (fun z0 z1 z2 σ9 τ9 => I18 σ0 τ0 a1 z0 z1 z2 σ9 τ9 ∧ m18 σ0 τ0 a1 z0 z1 z2 σ9 τ9 < m4 σ0 τ0 a1 x2 σ τ) (post σ0 τ0 a1))
    (v18 : ∀ (σ0 : MI) (τ0 : ML) (a1 : Int32) (x2 : Int32) (x3 : Int64) (x5 : Int32) (σ : MI) (τ : ML), I18 σ0 τ0 a1 x2 x3 x5 σ τ → s_Planner_joinOwn_18 σ τ x2 x3 x5 (fun z0 σ9 τ9 => I4 σ0 τ0 a1 z0 σ9 τ9 ∧ m4 σ0 τ0 a1 z0 σ9 τ9 < m18 σ0 τ0 a1 x2 x3 x5 σ τ) (fun z0 z1 z2 σ9 τ9 => I18 σ0 τ0 a1 z0 z1 z2 σ9 τ9 ∧ m18 σ0 τ0 a1 z0 z1 z2 σ9 τ9 < m18 σ0 τ0 a1 x2 x3 x5 σ τ) (post σ0 τ0 a1)) :
    ∀ (sz : Nat) (σ0 : MI) (τ0 : ML) (a1 : Int32), pre σ0 τ0 a1 → gMv l D (xw ad ci cl) (xt ci cl) (xa ad) y_Planner_joinOwn w_Planner_joinOwn rm_Planner_joinOwn [.ref (ad 19), .int a1] sz σ0 τ0 (post σ0 τ0 a1) := by
  intro sz σ0 τ0 a1 hpre
  refine gk_ofWv (cc := b_Planner_joinOwn) (maxL := 6) (ret := none) (by decide) rfl xa_ok (Nat.le_of_ble_eq_true rfl) ?_
  intro p e s m below meth c ls hx hb hr hlocks hml hown hts hK hP hD hS hl
  have hl : lv_has ls 6 [(0, .ref (ad 19)), (1, .int a1)] := hl
  have hown : s.vm.findClass R_Planner = some m.cls := hown
  have hL : ∀ n : Nat, (∀ (x2 : Int32) (σ : MI) (τ : ML) (H : Heap) (locs : List Loc) (ls : Array Slot), m4 σ0 τ0 a1 x2 σ τ < n → I4 σ0 τ0 a1 x2 σ τ → va_P D classes ((xw ad ci cl) σ τ) H → va_D (gA (xa ad) s.heap.size) ((xw ad ci cl) σ τ) → va_S (gA (xa ad) s.heap.size) s.heap H locs → lv_has ls 6 [(0, .ref (ad 19)), (2, .int x2)] → W p l e rm_Planner_joinOwn s m [.ref (ad 19), .int a1].toArray below meth c H locs 0 0 (gQv D (xw ad ci cl) (xt ci cl) (xa ad) below [.ref (ad 19), .int a1] s (post σ0 τ0 a1)) (F0 m 4 ls [])) ∧
      (∀ (x2 : Int32) (x3 : Int64) (x5 : Int32) (σ : MI) (τ : ML) (H : Heap) (locs : List Loc) (ls : Array Slot), m18 σ0 τ0 a1 x2 x3 x5 σ τ < n → I18 σ0 τ0 a1 x2 x3 x5 σ τ → va_P D classes ((xw ad ci cl) σ τ) H → va_D (gA (xa ad) s.heap.size) ((xw ad ci cl) σ τ) → va_S (gA (xa ad) s.heap.size) s.heap H locs → lv_has ls 6 [(0, .ref (ad 19)), (2, .int x2), (3, .long x3), (5, .int x5)] → W p l e rm_Planner_joinOwn s m [.ref (ad 19), .int a1].toArray below meth c H locs 0 0 (gQv D (xw ad ci cl) (xt ci cl) (xa ad) below [.ref (ad 19), .int a1] s (post σ0 τ0 a1)) (F0 m 18 ls [])) := by
    intro n
    induction n with
    | zero => exact ⟨fun _ _ _ _ _ _ hn => absurd hn (Nat.not_lt_zero _), fun _ _ _ _ _ _ _ _ hn => absurd hn (Nat.not_lt_zero _)⟩
    | succ n ih =>
      refine ⟨?_, ?_⟩
      · intro x2 σ τ H locs ls hn hI hP hD hS hl
        have hv := v4 σ0 τ0 a1 x2 σ τ hI
        unfold s_Planner_joinOwn_4 at hv
        refine lv_iload_n hx hb d_Planner_joinOwn_4 rfl (lv_at hl 1 rfl) ?_
        refine lv_if_le (tgt := 83) hx hb d_Planner_joinOwn_5 (by decide) (fun hc => ?_) (fun hc => ?_)
        · replace hv := hv.1 hc
          exact gk_vret hx hb hr hlocks hK hP hD hS hv d_Planner_joinOwn_83
        · replace hv := hv.2 hc
          refine lv_aload_n hx hb d_Planner_joinOwn_8 rfl (lv_at hl 0 rfl) ?_
          refine va_get (D := D) (ci := 3) (v := .ref (ad 20)) (C := R_Planner) (T := F_Planner) (N := 2) hx hb hts iw_Planner hown hK hP 19 rfl rfl 0 (by decide) (hts _ t_w81) (fun _ h9 => h9) rfl d_Planner_joinOwn_9 ?_
          refine lv_iload_n hx hb d_Planner_joinOwn_12 rfl (lv_at hl 1 rfl) ?_
          obtain ⟨hi, hv⟩ := hv
          refine va_lald hx hb hK hP 20 1 rfl rfl hi d_Planner_joinOwn_13 ?_
          refine lv_topl (fun y14 ey14 => ?_)
          replace hv := hv y14 ey14
          refine lv_lstore_n (lv' := [(3, .long y14), (0, .ref (ad 19)), (2, .int x2)]) hx hb d_Planner_joinOwn_14 rfl hl (by decide) rfl (fun ls hl => ?_)
          refine lv_iload_n hx hb d_Planner_joinOwn_15 rfl (lv_at hl 2 rfl) ?_
          refine lv_istore (lv' := [(5, .int x2), (3, .long y14), (0, .ref (ad 19)), (2, .int x2)]) hx hb d_Planner_joinOwn_16 hl (by decide) rfl (fun ls hl => ?_)
          obtain ⟨hI, hm⟩ := hv
          exact ih.2 x2 y14 x2 σ τ _ _ _ (Nat.lt_of_lt_of_le hm (Nat.le_of_lt_succ hn)) hI hP hD hS (lv_sub hl [2, 3, 1, 0] rfl)
      · intro x2 x3 x5 σ τ H locs ls hn hI hP hD hS hl
        have hv := v18 σ0 τ0 a1 x2 x3 x5 σ τ hI
        unfold s_Planner_joinOwn_18 at hv
        have j59 : ∀ (w2 : Int32) (w3 : Int64) (w5 : Int32) (σ1 : MI) (τ1 : ML) (H : Heap) (locs : List Loc) (ls : Array Slot), s_Planner_joinOwn_59 σ1 τ1 w2 w3 w5 (fun z0 σ9 τ9 => I4 σ0 τ0 a1 z0 σ9 τ9 ∧ m4 σ0 τ0 a1 z0 σ9 τ9 < m18 σ0 τ0 a1 x2 x3 x5 σ τ) (fun z0 z1 z2 σ9 τ9 => I18 σ0 τ0 a1 z0 z1 z2 σ9 τ9 ∧ m18 σ0 τ0 a1 z0 z1 z2 σ9 τ9 < m18 σ0 τ0 a1 x2 x3 x5 σ τ) (post σ0 τ0 a1) → va_P D classes ((xw ad ci cl) σ1 τ1) H → va_D (gA (xa ad) s.heap.size) ((xw ad ci cl) σ1 τ1) → va_S (gA (xa ad) s.heap.size) s.heap H locs → lv_has ls 6 [(0, .ref (ad 19)), (2, .int w2), (3, .long w3), (5, .int w5)] → W p l e rm_Planner_joinOwn s m [.ref (ad 19), .int a1].toArray below meth c H locs 0 0 (gQv D (xw ad ci cl) (xt ci cl) (xa ad) below [.ref (ad 19), .int a1] s (post σ0 τ0 a1)) (F0 m 59 ls []) := by
          intro w2 w3 w5 σ1 τ1 H locs ls hv hP hD hS hl
          unfold s_Planner_joinOwn_59 at hv
          refine lv_iload hx hb d_Planner_joinOwn_59 (lv_at hl 3 rfl) ?_
          refine lv_iconst (v := 1) hx hb d_Planner_joinOwn_61 (by decide) ?_
          refine lv_isub hx hb d_Planner_joinOwn_62 ?_
          refine lv_iload_n hx hb d_Planner_joinOwn_63 rfl (lv_at hl 1 rfl) ?_
          refine lv_iand hx hb d_Planner_joinOwn_64 ?_
          refine lv_topi (fun y65 ey65 => ?_)
          replace hv := hv y65 ey65
          refine lv_istore (lv' := [(5, .int y65), (0, .ref (ad 19)), (2, .int w2), (3, .long w3)]) hx hb d_Planner_joinOwn_65 hl (by decide) rfl (fun ls hl => ?_)
          refine lv_goto (tgt := 18) hx hb d_Planner_joinOwn_67 (by decide) ?_
          obtain ⟨hI, hm⟩ := hv
          exact ih.2 w2 w3 y65 σ1 τ1 _ _ _ (Nat.lt_of_lt_of_le hm (Nat.le_of_lt_succ hn)) hI hP hD hS (lv_sub hl [1, 2, 3, 0] rfl)
        refine lv_iload hx hb d_Planner_joinOwn_18 (lv_at hl 3 rfl) ?_
        refine lv_if_le (tgt := 70) hx hb d_Planner_joinOwn_20 (by decide) (fun hc => ?_) (fun hc => ?_)
        · replace hv := hv.1 hc
          refine lv_aload_n hx hb d_Planner_joinOwn_70 rfl (lv_at hl 0 rfl) ?_
          refine va_get (D := D) (ci := 3) (v := .ref (ad 20)) (C := R_Planner) (T := F_Planner) (N := 2) hx hb hts iw_Planner hown hK hP 19 rfl rfl 0 (by decide) (hts _ t_w81) (fun _ h9 => h9) rfl d_Planner_joinOwn_71 ?_
          refine lv_iload_n hx hb d_Planner_joinOwn_74 rfl (lv_at hl 1 rfl) ?_
          refine lv_lload_n hx hb d_Planner_joinOwn_75 rfl (lv_at hl 2 rfl) ?_
          obtain ⟨hi, hv⟩ := hv
          refine va_last hx hb hK hP hD hS 20 1 rfl rfl hi d_Planner_joinOwn_76 (fun H locs hP hD hS => ?_)
          rw [xa_20] at hP hD
          obtain ⟨t76, et76⟩ : ∃ z : ML, z = sl2 τ 20 (Int32.toNatClampNeg x2) x3 := ⟨_, rfl⟩
          rw [← et76] at hP hD
          replace hv := hv t76 et76
          obtain ⟨y77, ey77⟩ : ∃ z : Int32, z = x2 + (-1) := ⟨_, rfl⟩
          replace hv := hv y77 ey77
          refine lv_iinc (v := y77) (lv' := [(2, .int y77), (0, .ref (ad 19)), (3, .long x3), (5, .int x5)]) hx hb d_Planner_joinOwn_77 hl (k := 1) rfl (by rw [ey77]; rfl) (by decide) rfl (fun ls hl => ?_)
          refine lv_goto (tgt := 4) hx hb d_Planner_joinOwn_80 (by decide) ?_
          obtain ⟨hI, hm⟩ := hv
          exact ih.1 y77 σ t76 _ _ _ (Nat.lt_of_lt_of_le hm (Nat.le_of_lt_succ hn)) hI hP hD hS (lv_sub hl [1, 0] rfl)
        · replace hv := hv.2 hc
          refine lv_aload_n hx hb d_Planner_joinOwn_23 rfl (lv_at hl 0 rfl) ?_
          refine va_get (D := D) (ci := 3) (v := .ref (ad 21)) (C := R_Planner) (T := F_Planner) (N := 2) hx hb hts iw_Planner hown hK hP 19 rfl rfl 1 (by decide) (hts _ t_w109) (fun _ h9 => h9) rfl d_Planner_joinOwn_24 ?_
          refine lv_iload hx hb d_Planner_joinOwn_27 (lv_at hl 3 rfl) ?_
          obtain ⟨hi, hv⟩ := hv
          refine va_lald hx hb hK hP 21 1 rfl rfl hi d_Planner_joinOwn_29 ?_
          refine lv_ldc2 (v := (-1)) hx hb hown (hts _ t_w110) d_Planner_joinOwn_30 ?_
          refine W.lcmp hx hb d_Planner_joinOwn_33 ?_
          refine lv_if_eq (tgt := 59) hx hb d_Planner_joinOwn_34 (by decide) (fun hc => ?_) (fun hc => ?_)
          · replace hv := hv.1 hc
            exact j59 x2 x3 x5 σ τ _ _ _ hv hP hD hS (lv_sub hl [0, 1, 2, 3] rfl)
          · replace hv := hv.2 hc
            refine lv_lload_n hx hb d_Planner_joinOwn_37 rfl (lv_at hl 2 rfl) ?_
            refine lv_aload_n hx hb d_Planner_joinOwn_38 rfl (lv_at hl 0 rfl) ?_
            refine va_get (D := D) (ci := 3) (v := .ref (ad 21)) (C := R_Planner) (T := F_Planner) (N := 2) hx hb hts iw_Planner hown hK hP 19 rfl rfl 1 (by decide) (hts _ t_w109) (fun _ h9 => h9) rfl d_Planner_joinOwn_39 ?_
            refine lv_iload hx hb d_Planner_joinOwn_42 (lv_at hl 3 rfl) ?_
            obtain ⟨hi, hv⟩ := hv
            refine va_lald hx hb hK hP 21 1 rfl rfl hi d_Planner_joinOwn_44 ?_
            refine lv_aload_n hx hb d_Planner_joinOwn_45 rfl (lv_at hl 0 rfl) ?_
            refine va_get (D := D) (ci := 3) (v := .ref (ad 20)) (C := R_Planner) (T := F_Planner) (N := 2) hx hb hts iw_Planner hown hK hP 19 rfl rfl 0 (by decide) (hts _ t_w81) (fun _ h9 => h9) rfl d_Planner_joinOwn_46 ?_
            refine lv_iload_n hx hb d_Planner_joinOwn_49 rfl (lv_at hl 1 rfl) ?_
            refine lv_iload hx hb d_Planner_joinOwn_50 (lv_at hl 3 rfl) ?_
            refine lv_ixor hx hb d_Planner_joinOwn_52 ?_
            obtain ⟨hi, hv⟩ := hv
            refine va_lald hx hb hK hP 20 1 rfl rfl hi d_Planner_joinOwn_53 ?_
            refine lv_ladd hx hb d_Planner_joinOwn_54 ?_
            refine va_mmin_long hx hb (hml.trans hl.1.symm) hown (hts _ t_w111) (hts _ t_w112) (hts _ t_w113) (hts _ t_w114) (Nat.le_of_ble_eq_true rfl) (Nat.le_of_ble_eq_true rfl) (Nat.zero_le _) (Nat.zero_le _) d_Planner_joinOwn_55 ?_
            refine lv_topl (fun y58 ey58 => ?_)
            replace hv := hv y58 ey58
            refine lv_lstore_n (lv' := [(3, .long y58), (0, .ref (ad 19)), (2, .int x2), (5, .int x5)]) hx hb d_Planner_joinOwn_58 rfl hl (by decide) rfl (fun ls hl => ?_)
            exact j59 x2 y58 x5 σ τ _ _ _ hv hP hD hS (lv_sub hl [1, 2, 0, 3] rfl)
  have hv := v0 σ0 τ0 a1 hpre
  unfold s_Planner_joinOwn_0 at hv
  refine lv_iload_n hx hb d_Planner_joinOwn_0 rfl (lv_at hl 1 rfl) ?_
  refine lv_iconst (v := 1) hx hb d_Planner_joinOwn_1 (by decide) ?_
  refine lv_isub hx hb d_Planner_joinOwn_2 ?_
  refine lv_topi (fun y3 ey3 => ?_)
  replace hv := hv y3 ey3
  refine lv_istore_n (lv' := [(2, .int y3), (0, .ref (ad 19)), (1, .int a1)]) hx hb d_Planner_joinOwn_3 rfl hl (by decide) rfl (fun ls hl => ?_)
  exact (hL _).1 y3 σ0 τ0 _ _ _ (Nat.lt_succ_self _) hv hP hD hS (lv_sub hl [1, 0] rfl)
theorem d_Planner_divide_0 : decode b_Planner_divide 0 = .ok (.iconst 1, 1) := by decide +kernel
theorem d_Planner_divide_1 : decode b_Planner_divide 1 = .ok (.aload_n 2, 1) := by decide +kernel
theorem d_Planner_divide_2 : decode b_Planner_divide 2 = .ok (.getfield 18, 3) := by decide +kernel
theorem d_Planner_divide_5 : decode b_Planner_divide 5 = .ok (.ishl, 1) := by decide +kernel
theorem d_Planner_divide_6 : decode b_Planner_divide 6 = .ok (.istore 5, 2) := by decide +kernel
theorem d_Planner_divide_8 : decode b_Planner_divide 8 = .ok (.aload_n 0, 1) := by decide +kernel
theorem d_Planner_divide_9 : decode b_Planner_divide 9 = .ok (.aload_n 2, 1) := by decide +kernel
theorem d_Planner_divide_10 : decode b_Planner_divide 10 = .ok (.getfield 18, 3) := by decide +kernel
theorem d_Planner_divide_13 : decode b_Planner_divide 13 = .ok (.invokevirtual 24, 3) := by decide +kernel
theorem d_Planner_divide_16 : decode b_Planner_divide 16 = .ok (.iconst 0, 1) := by decide +kernel
theorem d_Planner_divide_17 : decode b_Planner_divide 17 = .ok (.istore 6, 2) := by decide +kernel
theorem d_Planner_divide_19 : decode b_Planner_divide 19 = .ok (.iload 6, 2) := by decide +kernel
theorem d_Planner_divide_21 : decode b_Planner_divide 21 = .ok (.aload_n 1, 1) := by decide +kernel
theorem d_Planner_divide_22 : decode b_Planner_divide 22 = .ok (.getfield 28, 3) := by decide +kernel
theorem d_Planner_divide_25 : decode b_Planner_divide 25 = .ok (.if_icmp .ge 34, 3) := by decide +kernel
theorem d_Planner_divide_28 : decode b_Planner_divide 28 = .ok (.aload 4, 2) := by decide +kernel
theorem d_Planner_divide_30 : decode b_Planner_divide 30 = .ok (.iload 6, 2) := by decide +kernel
theorem d_Planner_divide_32 : decode b_Planner_divide 32 = .ok (.invokevirtual 31, 3) := by decide +kernel
theorem d_Planner_divide_35 : decode b_Planner_divide 35 = .ok (.ifCond .ne 18, 3) := by decide +kernel
theorem d_Planner_divide_38 : decode b_Planner_divide 38 = .ok (.aload_n 0, 1) := by decide +kernel
theorem d_Planner_divide_39 : decode b_Planner_divide 39 = .ok (.aload_n 1, 1) := by decide +kernel
theorem d_Planner_divide_40 : decode b_Planner_divide 40 = .ok (.aload_n 2, 1) := by decide +kernel
theorem d_Planner_divide_41 : decode b_Planner_divide 41 = .ok (.aload_n 3, 1) := by decide +kernel
theorem d_Planner_divide_42 : decode b_Planner_divide 42 = .ok (.iload 6, 2) := by decide +kernel
theorem d_Planner_divide_44 : decode b_Planner_divide 44 = .ok (.invokevirtual 37, 3) := by decide +kernel
theorem d_Planner_divide_47 : decode b_Planner_divide 47 = .ok (.aload_n 0, 1) := by decide +kernel
theorem d_Planner_divide_48 : decode b_Planner_divide 48 = .ok (.iload 5, 2) := by decide +kernel
theorem d_Planner_divide_50 : decode b_Planner_divide 50 = .ok (.invokevirtual 41, 3) := by decide +kernel
theorem d_Planner_divide_53 : decode b_Planner_divide 53 = .ok (.iinc 6 1, 3) := by decide +kernel
theorem d_Planner_divide_56 : decode b_Planner_divide 56 = .ok (.goto (-37), 3) := by decide +kernel
theorem d_Planner_divide_59 : decode b_Planner_divide 59 = .ok (.aload_n 0, 1) := by decide +kernel
theorem d_Planner_divide_60 : decode b_Planner_divide 60 = .ok (.getfield 11, 3) := by decide +kernel
theorem d_Planner_divide_63 : decode b_Planner_divide 63 = .ok (.iload 5, 2) := by decide +kernel
theorem d_Planner_divide_65 : decode b_Planner_divide 65 = .ok (.iconst 1, 1) := by decide +kernel
theorem d_Planner_divide_66 : decode b_Planner_divide 66 = .ok (.isub, 1) := by decide +kernel
theorem d_Planner_divide_67 : decode b_Planner_divide 67 = .ok (.laload, 1) := by decide +kernel
theorem d_Planner_divide_68 : decode b_Planner_divide 68 = .ok (.lstore 6, 2) := by decide +kernel
theorem d_Planner_divide_70 : decode b_Planner_divide 70 = .ok (.iconst 0, 1) := by decide +kernel
theorem d_Planner_divide_71 : decode b_Planner_divide 71 = .ok (.istore 8, 2) := by decide +kernel
theorem d_Planner_divide_73 : decode b_Planner_divide 73 = .ok (.iload 8, 2) := by decide +kernel
theorem d_Planner_divide_75 : decode b_Planner_divide 75 = .ok (.aload_n 2, 1) := by decide +kernel
theorem d_Planner_divide_76 : decode b_Planner_divide 76 = .ok (.getfield 18, 3) := by decide +kernel
theorem d_Planner_divide_79 : decode b_Planner_divide 79 = .ok (.if_icmp .ge 43, 3) := by decide +kernel
theorem d_Planner_divide_82 : decode b_Planner_divide 82 = .ok (.lload 6, 2) := by decide +kernel
theorem d_Planner_divide_84 : decode b_Planner_divide 84 = .ok (.iload 8, 2) := by decide +kernel
theorem d_Planner_divide_86 : decode b_Planner_divide 86 = .ok (.invokestatic 44, 3) := by decide +kernel
theorem d_Planner_divide_89 : decode b_Planner_divide 89 = .ok (.lshr, 1) := by decide +kernel
theorem d_Planner_divide_90 : decode b_Planner_divide 90 = .ok (.l2i, 1) := by decide +kernel
theorem d_Planner_divide_91 : decode b_Planner_divide 91 = .ok (.bipush 7, 2) := by decide +kernel
theorem d_Planner_divide_93 : decode b_Planner_divide 93 = .ok (.iand, 1) := by decide +kernel
theorem d_Planner_divide_94 : decode b_Planner_divide 94 = .ok (.istore 9, 2) := by decide +kernel
theorem d_Planner_divide_96 : decode b_Planner_divide 96 = .ok (.aload 4, 2) := by decide +kernel
theorem d_Planner_divide_98 : decode b_Planner_divide 98 = .ok (.getfield 48, 3) := by decide +kernel
theorem d_Planner_divide_101 : decode b_Planner_divide 101 = .ok (.iload 8, 2) := by decide +kernel
theorem d_Planner_divide_103 : decode b_Planner_divide 103 = .ok (.iload 9, 2) := by decide +kernel
theorem d_Planner_divide_105 : decode b_Planner_divide 105 = .ok (.iconst 4, 1) := by decide +kernel
theorem d_Planner_divide_106 : decode b_Planner_divide 106 = .ok (.if_icmp .ge 8, 3) := by decide +kernel
theorem d_Planner_divide_109 : decode b_Planner_divide 109 = .ok (.iload 9, 2) := by decide +kernel
theorem d_Planner_divide_111 : decode b_Planner_divide 111 = .ok (.goto 4, 3) := by decide +kernel
theorem d_Planner_divide_114 : decode b_Planner_divide 114 = .ok (.iconst (-1), 1) := by decide +kernel
theorem d_Planner_divide_115 : decode b_Planner_divide 115 = .ok (.iastore, 1) := by decide +kernel
theorem d_Planner_divide_116 : decode b_Planner_divide 116 = .ok (.iinc 8 1, 3) := by decide +kernel
theorem d_Planner_divide_119 : decode b_Planner_divide 119 = .ok (.goto (-46), 3) := by decide +kernel
theorem d_Planner_divide_122 : decode b_Planner_divide 122 = .ok (.return_, 1) := by decide +kernel
def s_Planner_divide_0 (P_Planner_giveToNobody : MI → ML → Int32 → Prop) (Q_Planner_giveToNobody : MI → ML → Int32 → MI → ML → Prop) (P_Plan_isBarred : MI → ML → Int32 → Prop) (Q_Plan_isBarred : MI → ML → Int32 → Int32 → MI → ML → Prop) (P_Planner_costOwn : MI → ML → Int32 → Prop) (Q_Planner_costOwn : MI → ML → Int32 → MI → ML → Prop) (P_Planner_joinOwn : MI → ML → Int32 → Prop) (Q_Planner_joinOwn : MI → ML → Int32 → MI → ML → Prop) (P_Planner_digitShift : MI → ML → Int32 → Prop) (Q_Planner_digitShift : MI → ML → Int32 → Int32 → MI → ML → Prop) (σ : MI) (τ : ML) (K19 : Int32 → Int32 → MI → ML → Prop) (K73 : Int64 → Int32 → MI → ML → Prop) (R : MI → ML → Prop) : Prop :=
  ∀ y6 : Int32, y6 = 1 <<< ((σ 8 0) &&& 31) → (P_Planner_giveToNobody σ τ (σ 8 0) ∧ ∀ (s13 : MI) (t13 : ML), Q_Planner_giveToNobody σ τ (σ 8 0) s13 t13 → (K19 y6 0 s13 t13))
def s_Planner_divide_19 (P_Planner_giveToNobody : MI → ML → Int32 → Prop) (Q_Planner_giveToNobody : MI → ML → Int32 → MI → ML → Prop) (P_Plan_isBarred : MI → ML → Int32 → Prop) (Q_Plan_isBarred : MI → ML → Int32 → Int32 → MI → ML → Prop) (P_Planner_costOwn : MI → ML → Int32 → Prop) (Q_Planner_costOwn : MI → ML → Int32 → MI → ML → Prop) (P_Planner_joinOwn : MI → ML → Int32 → Prop) (Q_Planner_joinOwn : MI → ML → Int32 → MI → ML → Prop) (P_Planner_digitShift : MI → ML → Int32 → Prop) (Q_Planner_digitShift : MI → ML → Int32 → Int32 → MI → ML → Prop) (σ : MI) (τ : ML) (x5 : Int32) (x6 : Int32) (K19 : Int32 → Int32 → MI → ML → Prop) (K73 : Int64 → Int32 → MI → ML → Prop) (R : MI → ML → Prop) : Prop :=
  ((σ 1 0) ≤ x6 →
  (vp_in (x5 - 1) 128 ∧ (∀ y68 : Int64, y68 = τ 20 (Int32.toNatClampNeg (x5 - 1)) → (K73 y68 0 σ τ)))) ∧
  (¬ (σ 1 0) ≤ x6 →
  (P_Plan_isBarred σ τ x6 ∧ ∀ (r32 : Int32) (s32 : MI) (t32 : ML), Q_Plan_isBarred σ τ x6 r32 s32 t32 → ((¬ r32 = 0 →
    (∀ y53 : Int32, y53 = x6 + 1 → (K19 x5 y53 s32 t32))) ∧
    (r32 = 0 →
    (P_Planner_costOwn s32 t32 x6 ∧ ∀ (s44 : MI) (t44 : ML), Q_Planner_costOwn s32 t32 x6 s44 t44 → (P_Planner_joinOwn s44 t44 x5 ∧ ∀ (s50 : MI) (t50 : ML), Q_Planner_joinOwn s44 t44 x5 s50 t50 → (∀ y53 : Int32, y53 = x6 + 1 → (K19 x5 y53 s50 t50))))))))
def s_Planner_divide_73 (P_Planner_giveToNobody : MI → ML → Int32 → Prop) (Q_Planner_giveToNobody : MI → ML → Int32 → MI → ML → Prop) (P_Plan_isBarred : MI → ML → Int32 → Prop) (Q_Plan_isBarred : MI → ML → Int32 → Int32 → MI → ML → Prop) (P_Planner_costOwn : MI → ML → Int32 → Prop) (Q_Planner_costOwn : MI → ML → Int32 → MI → ML → Prop) (P_Planner_joinOwn : MI → ML → Int32 → Prop) (Q_Planner_joinOwn : MI → ML → Int32 → MI → ML → Prop) (P_Planner_digitShift : MI → ML → Int32 → Prop) (Q_Planner_digitShift : MI → ML → Int32 → Int32 → MI → ML → Prop) (σ : MI) (τ : ML) (x6 : Int64) (x8 : Int32) (K19 : Int32 → Int32 → MI → ML → Prop) (K73 : Int64 → Int32 → MI → ML → Prop) (R : MI → ML → Prop) : Prop :=
  ((σ 8 0) ≤ x8 →
  (R σ τ)) ∧
  (¬ (σ 8 0) ≤ x8 →
  (P_Planner_digitShift σ τ x8 ∧ ∀ (r86 : Int32) (s86 : MI) (t86 : ML), Q_Planner_digitShift σ τ x8 r86 s86 t86 → (∀ y94 : Int32, y94 = (Int64.toInt32 (x6 >>> ((Int32.toInt64 r86) &&& 63))) &&& 7 → ((4 ≤ y94 →
    (vp_in x8 7 ∧ (∀ s115 : MI, s115 = st2 s86 23 (Int32.toNatClampNeg x8) ((-1)) → (∀ y116 : Int32, y116 = x8 + 1 → (K73 x6 y116 s115 t86))))) ∧
    (¬ 4 ≤ y94 →
    (vp_in x8 7 ∧ (∀ s115 : MI, s115 = st2 s86 23 (Int32.toNatClampNeg x8) y94 → (∀ y116 : Int32, y116 = x8 + 1 → (K73 x6 y116 s115 t86)))))))))
set_option maxHeartbeats 4000000 in
set_option maxRecDepth 100000 in
theorem k_Planner_divide (l : Launch) (D : va_G) (ad : Nat → Nat) (ci cl : ClassId)
    (pre : MI → ML → Prop) (post : MI → ML → MI → ML → Prop) (P_Planner_giveToNobody : MI → ML → Int32 → Prop) (Q_Planner_giveToNobody : MI → ML → Int32 → MI → ML → Prop) (P_Plan_isBarred : MI → ML → Int32 → Prop) (Q_Plan_isBarred : MI → ML → Int32 → Int32 → MI → ML → Prop) (P_Planner_costOwn : MI → ML → Int32 → Prop) (Q_Planner_costOwn : MI → ML → Int32 → MI → ML → Prop) (P_Planner_joinOwn : MI → ML → Int32 → Prop) (Q_Planner_joinOwn : MI → ML → Int32 → MI → ML → Prop) (P_Planner_digitShift : MI → ML → Int32 → Prop) (Q_Planner_digitShift : MI → ML → Int32 → Int32 → MI → ML → Prop)
    (h_Planner_giveToNobody : ∀ (sz : Nat) (σ : MI) (τ : ML) (b0 : Int32), P_Planner_giveToNobody σ τ b0 → gMv l D (xw ad ci cl) (xt ci cl) (xa ad) y_Planner_giveToNobody w_Planner_giveToNobody rm_Planner_giveToNobody [.ref (ad 19), .int b0] sz σ τ (Q_Planner_giveToNobody σ τ b0))
    (h_Plan_isBarred : ∀ (sz : Nat) (σ : MI) (τ : ML) (b0 : Int32), P_Plan_isBarred σ τ b0 → gMi l D (xw ad ci cl) (xt ci cl) (xa ad) y_Plan_isBarred w_Plan_isBarred rm_Plan_isBarred [.ref (ad 22), .int b0] sz σ τ (Q_Plan_isBarred σ τ b0))
    (h_Planner_costOwn : ∀ (sz : Nat) (σ : MI) (τ : ML) (b0 : Int32), P_Planner_costOwn σ τ b0 → gMv l D (xw ad ci cl) (xt ci cl) (xa ad) y_Planner_costOwn w_Planner_costOwn rm_Planner_costOwn [.ref (ad 19), .ref (ad 1), .ref (ad 8), .ref (ad 17), .int b0] sz σ τ (Q_Planner_costOwn σ τ b0))
    (h_Planner_joinOwn : ∀ (sz : Nat) (σ : MI) (τ : ML) (b0 : Int32), P_Planner_joinOwn σ τ b0 → gMv l D (xw ad ci cl) (xt ci cl) (xa ad) y_Planner_joinOwn w_Planner_joinOwn rm_Planner_joinOwn [.ref (ad 19), .int b0] sz σ τ (Q_Planner_joinOwn σ τ b0))
    (h_Planner_digitShift : ∀ (sz : Nat) (σ : MI) (τ : ML) (b0 : Int32), P_Planner_digitShift σ τ b0 → gMi l D (xw ad ci cl) (xt ci cl) (xa ad) y_Planner_digitShift w_Planner_digitShift rm_Planner_digitShift [.int b0] sz σ τ (Q_Planner_digitShift σ τ b0))
    (I19 : MI → ML → Int32 → Int32 → MI → ML → Prop) (m19 : MI → ML → Int32 → Int32 → MI → ML → Nat)
    (I73 : MI → ML → Int64 → Int32 → MI → ML → Prop) (m73 : MI → ML → Int64 → Int32 → MI → ML → Nat)
    (v0 : ∀ (σ0 : MI) (τ0 : ML), pre σ0 τ0 → s_Planner_divide_0 P_Planner_giveToNobody Q_Planner_giveToNobody P_Plan_isBarred Q_Plan_isBarred P_Planner_costOwn Q_Planner_costOwn P_Planner_joinOwn Q_Planner_joinOwn P_Planner_digitShift Q_Planner_digitShift σ0 τ0 (fun z0 z1 σ9 τ9 => I19 σ0 τ0 z0 z1 σ9 τ9) (fun z0 z1 σ9 τ9 => I73 σ0 τ0 z0 z1 σ9 τ9) (post σ0 τ0))
    (v19 : ∀ (σ0 : MI) (τ0 : ML) (x5 : Int32) (x6 : Int32) (σ : MI) (τ : ML), I19 σ0 τ0 x5 x6 σ τ → s_Planner_divide_19 P_Planner_giveToNobody Q_Planner_giveToNobody P_Plan_isBarred Q_Plan_isBarred P_Planner_costOwn Q_Planner_costOwn P_Planner_joinOwn Q_Planner_joinOwn P_Planner_digitShift Q_Planner_digitShift σ τ x5 x6 (fun z0 z1 σ9 τ9 => I19 σ0 τ0 z0 z1 σ9 τ9 ∧ m19 σ0 τ0 z0 z1 σ9 τ9 < m19 σ0 τ0 x5 x6 σ τ) (fun z0 z1 σ9 τ9 => I73 σ0 τ0 z0 z1 σ9 τ9 ∧ m73 σ0 τ0 z0 z1 σ9 τ9 < m19 σ0 τ0 x5 x6 σ τ) (post σ0 τ0))
    (v73 : ∀ (σ0 : MI) (τ0 : ML) (x6 : Int64) (x8 : Int32) (σ : MI) (τ : ML), I73 σ0 τ0 x6 x8 σ τ → s_Planner_divide_73 P_Planner_giveToNobody Q_Planner_giveToNobody P_Plan_isBarred Q_Plan_isBarred P_Planner_costOwn Q_Planner_costOwn P_Planner_joinOwn Q_Planner_joinOwn P_Planner_digitShift Q_Planner_digitShift σ τ x6 x8 (fun z0 z1 σ9 τ9 => I19 σ0 τ0 z0 z1 σ9 τ9 ∧ m19 σ0 τ0 z0 z1 σ9 τ9 < m73 σ0 τ0 x6 x8 σ τ) (fun z0 z1 σ9 τ9 => I73 σ0 τ0 z0 z1 σ9 τ9 ∧ m73 σ0 τ0 z0 z1 σ9 τ9 < m73 σ0 τ0 x6 x8 σ τ) (post σ0 τ0)) :
    ∀ (sz : Nat) (σ0 : MI) (τ0 : ML), pre σ0 τ0 → gMv l D (xw ad ci cl) (xt ci cl) (xa ad) y_Planner_divide w_Planner_divide rm_Planner_divide [.ref (ad 19), .ref (ad 1), .ref (ad 8), .ref (ad 17), .ref (ad 22)] sz σ0 τ0 (post σ0 τ0) := by
  intro sz σ0 τ0 hpre
  refine gk_ofWv (cc := b_Planner_divide) (maxL := 10) (ret := none) (by decide) rfl xa_ok (Nat.le_of_ble_eq_true rfl) ?_
  intro p e s m below meth c ls hx hb hr hlocks hml hown hts hK hP hD hS hl
  have hl : lv_has ls 10 [(0, .ref (ad 19)), (1, .ref (ad 1)), (2, .ref (ad 8)), (3, .ref (ad 17)), (4, .ref (ad 22))] := hl
  have hown : s.vm.findClass R_Planner = some m.cls := hown
  have hL : ∀ n : Nat, (∀ (x5 : Int32) (x6 : Int32) (σ : MI) (τ : ML) (H : Heap) (locs : List Loc) (ls : Array Slot), m19 σ0 τ0 x5 x6 σ τ < n → I19 σ0 τ0 x5 x6 σ τ → va_P D classes ((xw ad ci cl) σ τ) H → va_D (gA (xa ad) s.heap.size) ((xw ad ci cl) σ τ) → va_S (gA (xa ad) s.heap.size) s.heap H locs → lv_has ls 10 [(0, .ref (ad 19)), (1, .ref (ad 1)), (2, .ref (ad 8)), (3, .ref (ad 17)), (4, .ref (ad 22)), (5, .int x5), (6, .int x6)] → W p l e rm_Planner_divide s m [.ref (ad 19), .ref (ad 1), .ref (ad 8), .ref (ad 17), .ref (ad 22)].toArray below meth c H locs 0 0 (gQv D (xw ad ci cl) (xt ci cl) (xa ad) below [.ref (ad 19), .ref (ad 1), .ref (ad 8), .ref (ad 17), .ref (ad 22)] s (post σ0 τ0)) (F0 m 19 ls [])) ∧
      (∀ (x6 : Int64) (x8 : Int32) (σ : MI) (τ : ML) (H : Heap) (locs : List Loc) (ls : Array Slot), m73 σ0 τ0 x6 x8 σ τ < n → I73 σ0 τ0 x6 x8 σ τ → va_P D classes ((xw ad ci cl) σ τ) H → va_D (gA (xa ad) s.heap.size) ((xw ad ci cl) σ τ) → va_S (gA (xa ad) s.heap.size) s.heap H locs → lv_has ls 10 [(2, .ref (ad 8)), (4, .ref (ad 22)), (6, .long x6), (8, .int x8)] → W p l e rm_Planner_divide s m [.ref (ad 19), .ref (ad 1), .ref (ad 8), .ref (ad 17), .ref (ad 22)].toArray below meth c H locs 0 0 (gQv D (xw ad ci cl) (xt ci cl) (xa ad) below [.ref (ad 19), .ref (ad 1), .ref (ad 8), .ref (ad 17), .ref (ad 22)] s (post σ0 τ0)) (F0 m 73 ls [])) := by
    intro n
    induction n with
    | zero => exact ⟨fun _ _ _ _ _ _ _ hn => absurd hn (Nat.not_lt_zero _), fun _ _ _ _ _ _ _ hn => absurd hn (Nat.not_lt_zero _)⟩
    | succ n ih =>
      refine ⟨?_, ?_⟩
      · intro x5 x6 σ τ H locs ls hn hI hP hD hS hl
        have hv := v19 σ0 τ0 x5 x6 σ τ hI
        unfold s_Planner_divide_19 at hv
        refine lv_iload hx hb d_Planner_divide_19 (lv_at hl 6 rfl) ?_
        refine lv_aload_n hx hb d_Planner_divide_21 rfl (lv_at hl 1 rfl) ?_
        refine va_get (D := D) (ci := 1) (v := .int (σ 1 0)) (C := R_People) (T := F_People) (N := 7) hx hb hts iw_People hown hK hP 1 rfl rfl 0 (by decide) (hts _ t_w119) (fun _ h9 => h9) rfl d_Planner_divide_22 ?_
        refine lv_icmp_ge (tgt := 59) hx hb d_Planner_divide_25 (by decide) (fun hc => ?_) (fun hc => ?_)
        · replace hv := hv.1 hc
          refine lv_aload_n hx hb d_Planner_divide_59 rfl (lv_at hl 0 rfl) ?_
          refine va_get (D := D) (ci := 3) (v := .ref (ad 20)) (C := R_Planner) (T := F_Planner) (N := 2) hx hb hts iw_Planner hown hK hP 19 rfl rfl 0 (by decide) (hts _ t_w81) (fun _ h9 => h9) rfl d_Planner_divide_60 ?_
          refine lv_iload hx hb d_Planner_divide_63 (lv_at hl 5 rfl) ?_
          refine lv_iconst (v := 1) hx hb d_Planner_divide_65 (by decide) ?_
          refine lv_isub hx hb d_Planner_divide_66 ?_
          obtain ⟨hi, hv⟩ := hv
          refine va_lald hx hb hK hP 20 1 rfl rfl hi d_Planner_divide_67 ?_
          refine lv_topl (fun y68 ey68 => ?_)
          replace hv := hv y68 ey68
          refine lv_lstore (lv' := [(6, .long y68), (0, .ref (ad 19)), (1, .ref (ad 1)), (2, .ref (ad 8)), (3, .ref (ad 17)), (4, .ref (ad 22)), (5, .int x5)]) hx hb d_Planner_divide_68 hl (by decide) rfl (fun ls hl => ?_)
          refine lv_iconst (v := 0) hx hb d_Planner_divide_70 (by decide) ?_
          refine lv_istore (lv' := [(8, .int 0), (6, .long y68), (0, .ref (ad 19)), (1, .ref (ad 1)), (2, .ref (ad 8)), (3, .ref (ad 17)), (4, .ref (ad 22)), (5, .int x5)]) hx hb d_Planner_divide_71 hl (by decide) rfl (fun ls hl => ?_)
          obtain ⟨hI, hm⟩ := hv
          exact ih.2 y68 0 σ τ _ _ _ (Nat.lt_of_lt_of_le hm (Nat.le_of_lt_succ hn)) hI hP hD hS (lv_sub hl [4, 6, 1, 0] rfl)
        · replace hv := hv.2 hc
          refine lv_aload hx hb d_Planner_divide_28 (lv_at hl 4 rfl) ?_
          refine lv_iload hx hb d_Planner_divide_30 (lv_at hl 6 rfl) ?_
          obtain ⟨hg, hv⟩ := hv
          refine gk_callVi (As := [.int x6]) (rest := []) (b := ad 22) ⟨hx, hb, hml, hown, hts⟩ (h_Plan_isBarred _ σ τ x6 hg) (gk_cwV 1 hts t_w124 rfl rfl rfl (hts _ t_w120) (hts _ t_w121) (hts _ t_w122) (hts _ t_w123) (by decide +kernel) ⟨Nat.le_of_ble_eq_true rfl, Nat.le_of_ble_eq_true rfl⟩) hK hP hD hS (va_recv hK hP (ci := 2) (q0 := 22) rfl rfl) rfl hl.1 rfl (lv_room (Nat.le_of_ble_eq_true rfl)) d_Planner_divide_32 ⟨Nat.zero_le _, Nat.zero_le _⟩ ?_
          intro r32 s32 t32 H locs hw hP hD hS
          replace hv := hv r32 s32 t32 hw
          refine lv_if_ne (tgt := 53) hx hb d_Planner_divide_35 (by decide) (fun hc => ?_) (fun hc => ?_)
          · replace hv := hv.1 hc
            obtain ⟨y53, ey53⟩ : ∃ z : Int32, z = x6 + 1 := ⟨_, rfl⟩
            replace hv := hv y53 ey53
            refine lv_iinc (v := y53) (lv' := [(6, .int y53), (0, .ref (ad 19)), (1, .ref (ad 1)), (2, .ref (ad 8)), (3, .ref (ad 17)), (4, .ref (ad 22)), (5, .int x5)]) hx hb d_Planner_divide_53 hl (k := 6) rfl (by rw [ey53]; rfl) (by decide) rfl (fun ls hl => ?_)
            refine lv_goto (tgt := 19) hx hb d_Planner_divide_56 (by decide) ?_
            obtain ⟨hI, hm⟩ := hv
            exact ih.1 x5 y53 s32 t32 _ _ _ (Nat.lt_of_lt_of_le hm (Nat.le_of_lt_succ hn)) hI hP hD hS (lv_sub hl [1, 2, 3, 4, 5, 6, 0] rfl)
          · replace hv := hv.2 hc
            refine lv_aload_n hx hb d_Planner_divide_38 rfl (lv_at hl 0 rfl) ?_
            refine lv_aload_n hx hb d_Planner_divide_39 rfl (lv_at hl 1 rfl) ?_
            refine lv_aload_n hx hb d_Planner_divide_40 rfl (lv_at hl 2 rfl) ?_
            refine lv_aload_n hx hb d_Planner_divide_41 rfl (lv_at hl 3 rfl) ?_
            refine lv_iload hx hb d_Planner_divide_42 (lv_at hl 6 rfl) ?_
            obtain ⟨hg, hv⟩ := hv
            refine gk_callVv (As := [.ref (ad 1), .ref (ad 8), .ref (ad 17), .int x6]) (rest := []) (b := ad 19) ⟨hx, hb, hml, hown, hts⟩ (h_Planner_costOwn _ s32 t32 x6 hg) (gk_cwV 4 hts t_w128 rfl rfl rfl (hts _ t_w125) (hts _ t_w126) (hts _ t_w127) (hts _ t_w75) (by decide +kernel) ⟨Nat.le_of_ble_eq_true rfl, Nat.le_of_ble_eq_true rfl⟩) hK hP hD hS (va_recv hK hP (ci := 3) (q0 := 19) rfl rfl) rfl hl.1 rfl (lv_room (Nat.le_of_ble_eq_true rfl)) d_Planner_divide_44 ⟨Nat.zero_le _, Nat.zero_le _⟩ ?_
            intro s44 t44 H locs hw hP hD hS
            replace hv := hv s44 t44 hw
            refine lv_aload_n hx hb d_Planner_divide_47 rfl (lv_at hl 0 rfl) ?_
            refine lv_iload hx hb d_Planner_divide_48 (lv_at hl 5 rfl) ?_
            obtain ⟨hg, hv⟩ := hv
            refine gk_callVv (As := [.int x5]) (rest := []) (b := ad 19) ⟨hx, hb, hml, hown, hts⟩ (h_Planner_joinOwn _ s44 t44 x5 hg) (gk_cwV 1 hts t_w132 rfl rfl rfl (hts _ t_w129) (hts _ t_w130) (hts _ t_w131) (hts _ t_w75) (by decide +kernel) ⟨Nat.le_of_ble_eq_true rfl, Nat.le_of_ble_eq_true rfl⟩) hK hP hD hS (va_recv hK hP (ci := 3) (q0 := 19) rfl rfl) rfl hl.1 rfl (lv_room (Nat.le_of_ble_eq_true rfl)) d_Planner_divide_50 ⟨Nat.zero_le _, Nat.zero_le _⟩ ?_
            intro s50 t50 H locs hw hP hD hS
            replace hv := hv s50 t50 hw
            obtain ⟨y53, ey53⟩ : ∃ z : Int32, z = x6 + 1 := ⟨_, rfl⟩
            replace hv := hv y53 ey53
            refine lv_iinc (v := y53) (lv' := [(6, .int y53), (0, .ref (ad 19)), (1, .ref (ad 1)), (2, .ref (ad 8)), (3, .ref (ad 17)), (4, .ref (ad 22)), (5, .int x5)]) hx hb d_Planner_divide_53 hl (k := 6) rfl (by rw [ey53]; rfl) (by decide) rfl (fun ls hl => ?_)
            refine lv_goto (tgt := 19) hx hb d_Planner_divide_56 (by decide) ?_
            obtain ⟨hI, hm⟩ := hv
            exact ih.1 x5 y53 s50 t50 _ _ _ (Nat.lt_of_lt_of_le hm (Nat.le_of_lt_succ hn)) hI hP hD hS (lv_sub hl [1, 2, 3, 4, 5, 6, 0] rfl)
      · intro x6 x8 σ τ H locs ls hn hI hP hD hS hl
        have hv := v73 σ0 τ0 x6 x8 σ τ hI
        unfold s_Planner_divide_73 at hv
        refine lv_iload hx hb d_Planner_divide_73 (lv_at hl 3 rfl) ?_
        refine lv_aload_n hx hb d_Planner_divide_75 rfl (lv_at hl 0 rfl) ?_
        refine va_get (D := D) (ci := 0) (v := .int (σ 8 0)) (C := R_Jobs) (T := F_Jobs) (N := 7) hx hb hts iw_Jobs hown hK hP 8 rfl rfl 0 (by decide) (hts _ t_w91) (fun _ h9 => h9) rfl d_Planner_divide_76 ?_
        refine lv_icmp_ge (tgt := 122) hx hb d_Planner_divide_79 (by decide) (fun hc => ?_) (fun hc => ?_)
        · replace hv := hv.1 hc
          exact gk_vret hx hb hr hlocks hK hP hD hS hv d_Planner_divide_122
        · replace hv := hv.2 hc
          refine lv_lload hx hb d_Planner_divide_82 (lv_at hl 2 rfl) ?_
          refine lv_iload hx hb d_Planner_divide_84 (lv_at hl 3 rfl) ?_
          obtain ⟨hg, hv⟩ := hv
          refine gk_callSi (As := [.int x8]) (rest := [.long x6]) ⟨hx, hb, hml, hown, hts⟩ (h_Planner_digitShift _ σ τ x8 hg) (gk_cwS 1 hts t_w76 rfl rfl rfl (hts _ t_w73) (hts _ t_w74) (hts _ t_w75) (by decide +kernel) ⟨Nat.le_of_ble_eq_true rfl, Nat.le_of_ble_eq_true rfl⟩) hK hP hD hS rfl hl.1 rfl (lv_room (Nat.le_of_ble_eq_true rfl)) d_Planner_divide_86 ⟨Nat.zero_le _, Nat.zero_le _⟩ ?_
          intro r86 s86 t86 H locs hw hP hD hS
          replace hv := hv r86 s86 t86 hw
          refine lv_lshr hx hb d_Planner_divide_89 rfl ?_
          refine lv_l2i hx hb d_Planner_divide_90 rfl ?_
          refine lv_bipush (v := 7) hx hb d_Planner_divide_91 (by decide) ?_
          refine lv_iand hx hb d_Planner_divide_93 ?_
          refine lv_topi (fun y94 ey94 => ?_)
          replace hv := hv y94 ey94
          refine lv_istore (lv' := [(9, .int y94), (2, .ref (ad 8)), (4, .ref (ad 22)), (6, .long x6), (8, .int x8)]) hx hb d_Planner_divide_94 hl (by decide) rfl (fun ls hl => ?_)
          refine lv_aload hx hb d_Planner_divide_96 (lv_at hl 2 rfl) ?_
          refine va_get (D := D) (ci := 2) (v := .ref (ad 23)) (C := R_Plan) (T := F_Plan) (N := 9) hx hb hts iw_Plan hown hK hP 22 rfl rfl 4 (by decide) (hts _ t_w133) (fun _ h9 => h9) rfl d_Planner_divide_98 ?_
          refine lv_iload hx hb d_Planner_divide_101 (lv_at hl 4 rfl) ?_
          refine lv_iload hx hb d_Planner_divide_103 (lv_at hl 0 rfl) ?_
          refine lv_iconst (v := 4) hx hb d_Planner_divide_105 (by decide) ?_
          refine lv_icmp_ge (tgt := 114) hx hb d_Planner_divide_106 (by decide) (fun hc => ?_) (fun hc => ?_)
          · replace hv := hv.1 hc
            refine lv_iconst (v := (-1)) hx hb d_Planner_divide_114 (by decide) ?_
            obtain ⟨hi, hv⟩ := hv
            refine va_iast hx hb hK hP hD hS 23 0 rfl rfl hi d_Planner_divide_115 (fun H locs hP hD hS => ?_)
            rw [xa_23] at hP hD
            obtain ⟨s115, es115⟩ : ∃ z : MI, z = st2 s86 23 (Int32.toNatClampNeg x8) ((-1)) := ⟨_, rfl⟩
            rw [← es115] at hP hD
            replace hv := hv s115 es115
            obtain ⟨y116, ey116⟩ : ∃ z : Int32, z = x8 + 1 := ⟨_, rfl⟩
            replace hv := hv y116 ey116
            refine lv_iinc (v := y116) (lv' := [(8, .int y116), (9, .int y94), (2, .ref (ad 8)), (4, .ref (ad 22)), (6, .long x6)]) hx hb d_Planner_divide_116 hl (k := 4) rfl (by rw [ey116]; rfl) (by decide) rfl (fun ls hl => ?_)
            refine lv_goto (tgt := 73) hx hb d_Planner_divide_119 (by decide) ?_
            obtain ⟨hI, hm⟩ := hv
            exact ih.2 x6 y116 s115 t86 _ _ _ (Nat.lt_of_lt_of_le hm (Nat.le_of_lt_succ hn)) hI hP hD hS (lv_sub hl [2, 3, 4, 0] rfl)
          · replace hv := hv.2 hc
            refine lv_iload hx hb d_Planner_divide_109 (lv_at hl 0 rfl) ?_
            refine lv_goto (tgt := 115) hx hb d_Planner_divide_111 (by decide) ?_
            obtain ⟨hi, hv⟩ := hv
            refine va_iast hx hb hK hP hD hS 23 0 rfl rfl hi d_Planner_divide_115 (fun H locs hP hD hS => ?_)
            rw [xa_23] at hP hD
            obtain ⟨s115, es115⟩ : ∃ z : MI, z = st2 s86 23 (Int32.toNatClampNeg x8) y94 := ⟨_, rfl⟩
            rw [← es115] at hP hD
            replace hv := hv s115 es115
            obtain ⟨y116, ey116⟩ : ∃ z : Int32, z = x8 + 1 := ⟨_, rfl⟩
            replace hv := hv y116 ey116
            refine lv_iinc (v := y116) (lv' := [(8, .int y116), (9, .int y94), (2, .ref (ad 8)), (4, .ref (ad 22)), (6, .long x6)]) hx hb d_Planner_divide_116 hl (k := 4) rfl (by rw [ey116]; rfl) (by decide) rfl (fun ls hl => ?_)
            refine lv_goto (tgt := 73) hx hb d_Planner_divide_119 (by decide) ?_
            obtain ⟨hI, hm⟩ := hv
            exact ih.2 x6 y116 s115 t86 _ _ _ (Nat.lt_of_lt_of_le hm (Nat.le_of_lt_succ hn)) hI hP hD hS (lv_sub hl [2, 3, 4, 0] rfl)
  have hv := v0 σ0 τ0 hpre
  unfold s_Planner_divide_0 at hv
  refine lv_iconst (v := 1) hx hb d_Planner_divide_0 (by decide) ?_
  refine lv_aload_n hx hb d_Planner_divide_1 rfl (lv_at hl 2 rfl) ?_
  refine va_get (D := D) (ci := 0) (v := .int (σ0 8 0)) (C := R_Jobs) (T := F_Jobs) (N := 7) hx hb hts iw_Jobs hown hK hP 8 rfl rfl 0 (by decide) (hts _ t_w91) (fun _ h9 => h9) rfl d_Planner_divide_2 ?_
  refine lv_ishl hx hb d_Planner_divide_5 ?_
  refine lv_topi (fun y6 ey6 => ?_)
  replace hv := hv y6 ey6
  refine lv_istore (lv' := [(5, .int y6), (0, .ref (ad 19)), (1, .ref (ad 1)), (2, .ref (ad 8)), (3, .ref (ad 17)), (4, .ref (ad 22))]) hx hb d_Planner_divide_6 hl (by decide) rfl (fun ls hl => ?_)
  refine lv_aload_n hx hb d_Planner_divide_8 rfl (lv_at hl 1 rfl) ?_
  refine lv_aload_n hx hb d_Planner_divide_9 rfl (lv_at hl 3 rfl) ?_
  refine va_get (D := D) (ci := 0) (v := .int (σ0 8 0)) (C := R_Jobs) (T := F_Jobs) (N := 7) hx hb hts iw_Jobs hown hK hP 8 rfl rfl 0 (by decide) (hts _ t_w91) (fun _ h9 => h9) rfl d_Planner_divide_10 ?_
  obtain ⟨hg, hv⟩ := hv
  refine gk_callVv (As := [.int (σ0 8 0)]) (rest := []) (b := ad 19) ⟨hx, hb, hml, hown, hts⟩ (h_Planner_giveToNobody _ σ0 τ0 (σ0 8 0) hg) (gk_cwV 1 hts t_w118 rfl rfl rfl (hts _ t_w115) (hts _ t_w116) (hts _ t_w117) (hts _ t_w75) (by decide +kernel) ⟨Nat.le_of_ble_eq_true rfl, Nat.le_of_ble_eq_true rfl⟩) hK hP hD hS (va_recv hK hP (ci := 3) (q0 := 19) rfl rfl) rfl hl.1 rfl (lv_room (Nat.le_of_ble_eq_true rfl)) d_Planner_divide_13 ⟨Nat.zero_le _, Nat.zero_le _⟩ ?_
  intro s13 t13 H locs hw hP hD hS
  replace hv := hv s13 t13 hw
  refine lv_iconst (v := 0) hx hb d_Planner_divide_16 (by decide) ?_
  refine lv_istore (lv' := [(6, .int 0), (5, .int y6), (0, .ref (ad 19)), (1, .ref (ad 1)), (2, .ref (ad 8)), (3, .ref (ad 17)), (4, .ref (ad 22))]) hx hb d_Planner_divide_17 hl (by decide) rfl (fun ls hl => ?_)
  exact (hL _).1 y6 0 s13 t13 _ _ _ (Nat.lt_succ_self _) hv hP hD hS (lv_sub hl [2, 3, 4, 5, 6, 1, 0] rfl)
theorem d_Plan_walkOf_0 : decode b_Plan_walkOf 0 = .ok (.iload_n 2, 1) := by decide +kernel
theorem d_Plan_walkOf_1 : decode b_Plan_walkOf 1 = .ok (.istore 5, 2) := by decide +kernel
theorem d_Plan_walkOf_3 : decode b_Plan_walkOf 3 = .ok (.iconst 0, 1) := by decide +kernel
theorem d_Plan_walkOf_4 : decode b_Plan_walkOf 4 = .ok (.istore 6, 2) := by decide +kernel
theorem d_Plan_walkOf_6 : decode b_Plan_walkOf 6 = .ok (.iload 6, 2) := by decide +kernel
theorem d_Plan_walkOf_8 : decode b_Plan_walkOf 8 = .ok (.aload_n 3, 1) := by decide +kernel
theorem d_Plan_walkOf_9 : decode b_Plan_walkOf 9 = .ok (.getfield 47, 3) := by decide +kernel
theorem d_Plan_walkOf_12 : decode b_Plan_walkOf 12 = .ok (.if_icmp .ge 85, 3) := by decide +kernel
theorem d_Plan_walkOf_15 : decode b_Plan_walkOf 15 = .ok (.aload_n 3, 1) := by decide +kernel
theorem d_Plan_walkOf_16 : decode b_Plan_walkOf 16 = .ok (.getfield 62, 3) := by decide +kernel
theorem d_Plan_walkOf_19 : decode b_Plan_walkOf 19 = .ok (.iload 6, 2) := by decide +kernel
theorem d_Plan_walkOf_21 : decode b_Plan_walkOf 21 = .ok (.iaload, 1) := by decide +kernel
theorem d_Plan_walkOf_22 : decode b_Plan_walkOf 22 = .ok (.istore 7, 2) := by decide +kernel
theorem d_Plan_walkOf_24 : decode b_Plan_walkOf 24 = .ok (.aload_n 0, 1) := by decide +kernel
theorem d_Plan_walkOf_25 : decode b_Plan_walkOf 25 = .ok (.getfield 25, 3) := by decide +kernel
theorem d_Plan_walkOf_28 : decode b_Plan_walkOf 28 = .ok (.iload 7, 2) := by decide +kernel
theorem d_Plan_walkOf_30 : decode b_Plan_walkOf 30 = .ok (.iaload, 1) := by decide +kernel
theorem d_Plan_walkOf_31 : decode b_Plan_walkOf 31 = .ok (.iload_n 1, 1) := by decide +kernel
theorem d_Plan_walkOf_32 : decode b_Plan_walkOf 32 = .ok (.if_icmp .ne 59, 3) := by decide +kernel
theorem d_Plan_walkOf_35 : decode b_Plan_walkOf 35 = .ok (.aload_n 0, 1) := by decide +kernel
theorem d_Plan_walkOf_36 : decode b_Plan_walkOf 36 = .ok (.getfield 29, 3) := by decide +kernel
theorem d_Plan_walkOf_39 : decode b_Plan_walkOf 39 = .ok (.iload 7, 2) := by decide +kernel
theorem d_Plan_walkOf_41 : decode b_Plan_walkOf 41 = .ok (.aload 4, 2) := by decide +kernel
theorem d_Plan_walkOf_43 : decode b_Plan_walkOf 43 = .ok (.iload 5, 2) := by decide +kernel
theorem d_Plan_walkOf_45 : decode b_Plan_walkOf 45 = .ok (.aload_n 3, 1) := by decide +kernel
theorem d_Plan_walkOf_46 : decode b_Plan_walkOf 46 = .ok (.getfield 65, 3) := by decide +kernel
theorem d_Plan_walkOf_49 : decode b_Plan_walkOf 49 = .ok (.iload 7, 2) := by decide +kernel
theorem d_Plan_walkOf_51 : decode b_Plan_walkOf 51 = .ok (.iaload, 1) := by decide +kernel
theorem d_Plan_walkOf_52 : decode b_Plan_walkOf 52 = .ok (.invokevirtual 68, 3) := by decide +kernel
theorem d_Plan_walkOf_55 : decode b_Plan_walkOf 55 = .ok (.iastore, 1) := by decide +kernel
theorem d_Plan_walkOf_56 : decode b_Plan_walkOf 56 = .ok (.aload_n 0, 1) := by decide +kernel
theorem d_Plan_walkOf_57 : decode b_Plan_walkOf 57 = .ok (.dup, 1) := by decide +kernel
theorem d_Plan_walkOf_58 : decode b_Plan_walkOf 58 = .ok (.getfield 22, 3) := by decide +kernel
theorem d_Plan_walkOf_61 : decode b_Plan_walkOf 61 = .ok (.aload_n 0, 1) := by decide +kernel
theorem d_Plan_walkOf_62 : decode b_Plan_walkOf 62 = .ok (.getfield 29, 3) := by decide +kernel
theorem d_Plan_walkOf_65 : decode b_Plan_walkOf 65 = .ok (.iload 7, 2) := by decide +kernel
theorem d_Plan_walkOf_67 : decode b_Plan_walkOf 67 = .ok (.iaload, 1) := by decide +kernel
theorem d_Plan_walkOf_68 : decode b_Plan_walkOf 68 = .ok (.iadd, 1) := by decide +kernel
theorem d_Plan_walkOf_69 : decode b_Plan_walkOf 69 = .ok (.putfield 22, 3) := by decide +kernel
theorem d_Plan_walkOf_72 : decode b_Plan_walkOf 72 = .ok (.aload_n 0, 1) := by decide +kernel
theorem d_Plan_walkOf_73 : decode b_Plan_walkOf 73 = .ok (.dup, 1) := by decide +kernel
theorem d_Plan_walkOf_74 : decode b_Plan_walkOf 74 = .ok (.getfield 19, 3) := by decide +kernel
theorem d_Plan_walkOf_77 : decode b_Plan_walkOf 77 = .ok (.iconst 1, 1) := by decide +kernel
theorem d_Plan_walkOf_78 : decode b_Plan_walkOf 78 = .ok (.iadd, 1) := by decide +kernel
theorem d_Plan_walkOf_79 : decode b_Plan_walkOf 79 = .ok (.putfield 19, 3) := by decide +kernel
theorem d_Plan_walkOf_82 : decode b_Plan_walkOf 82 = .ok (.aload_n 3, 1) := by decide +kernel
theorem d_Plan_walkOf_83 : decode b_Plan_walkOf 83 = .ok (.getfield 65, 3) := by decide +kernel
theorem d_Plan_walkOf_86 : decode b_Plan_walkOf 86 = .ok (.iload 7, 2) := by decide +kernel
theorem d_Plan_walkOf_88 : decode b_Plan_walkOf 88 = .ok (.iaload, 1) := by decide +kernel
theorem d_Plan_walkOf_89 : decode b_Plan_walkOf 89 = .ok (.istore 5, 2) := by decide +kernel
theorem d_Plan_walkOf_91 : decode b_Plan_walkOf 91 = .ok (.iinc 6 1, 3) := by decide +kernel
theorem d_Plan_walkOf_94 : decode b_Plan_walkOf 94 = .ok (.goto (-88), 3) := by decide +kernel
theorem d_Plan_walkOf_97 : decode b_Plan_walkOf 97 = .ok (.return_, 1) := by decide +kernel
def s_Plan_walkOf_0 (P_Ways_between : MI → ML → Int32 → Int32 → Prop) (Q_Ways_between : MI → ML → Int32 → Int32 → Int32 → MI → ML → Prop) (σ : MI) (τ : ML) (a1 : Int32) (a2 : Int32) (K6 : Int32 → Int32 → Int32 → MI → ML → Prop) (R : MI → ML → Prop) : Prop :=
  K6 a1 a2 0 σ τ
def s_Plan_walkOf_6 (P_Ways_between : MI → ML → Int32 → Int32 → Prop) (Q_Ways_between : MI → ML → Int32 → Int32 → Int32 → MI → ML → Prop) (σ : MI) (τ : ML) (x1 : Int32) (x5 : Int32) (x6 : Int32) (K6 : Int32 → Int32 → Int32 → MI → ML → Prop) (R : MI → ML → Prop) : Prop :=
  ((σ 8 0) ≤ x6 →
  (R σ τ)) ∧
  (¬ (σ 8 0) ≤ x6 →
  (vp_in x6 7 ∧ (∀ y22 : Int32, y22 = σ 14 (Int32.toNatClampNeg x6) → (vp_in y22 7 ∧ ((¬ (σ 23 (Int32.toNatClampNeg y22)) = x1 →
    (∀ y91 : Int32, y91 = x6 + 1 → (K6 x1 x5 y91 σ τ))) ∧
    ((σ 23 (Int32.toNatClampNeg y22)) = x1 →
    (vp_in y22 7 ∧ (P_Ways_between σ τ x5 (σ 13 (Int32.toNatClampNeg y22)) ∧ ∀ (r52 : Int32) (s52 : MI) (t52 : ML), Q_Ways_between σ τ x5 (σ 13 (Int32.toNatClampNeg y22)) r52 s52 t52 → (vp_in y22 7 ∧ (∀ s55 : MI, s55 = st2 s52 24 (Int32.toNatClampNeg y22) r52 → (vp_in y22 7 ∧ (∀ s69 : MI, s69 = st2 s55 22 3 ((s55 22 3) + (s55 24 (Int32.toNatClampNeg y22))) → (∀ s79 : MI, s79 = st2 s69 22 2 ((s69 22 2) + 1) → (vp_in y22 7 ∧ (∀ y89 : Int32, y89 = s79 13 (Int32.toNatClampNeg y22) → (∀ y91 : Int32, y91 = x6 + 1 → (K6 x1 y89 y91 s79 t52)))))))))))))))))
set_option maxHeartbeats 4000000 in
set_option maxRecDepth 100000 in
theorem k_Plan_walkOf (l : Launch) (D : va_G) (ad : Nat → Nat) (ci cl : ClassId)
    (pre : MI → ML → Int32 → Int32 → Prop) (post : MI → ML → Int32 → Int32 → MI → ML → Prop) (P_Ways_between : MI → ML → Int32 → Int32 → Prop) (Q_Ways_between : MI → ML → Int32 → Int32 → Int32 → MI → ML → Prop)
    (h_Ways_between : ∀ (sz : Nat) (σ : MI) (τ : ML) (b0 : Int32) (b1 : Int32), P_Ways_between σ τ b0 b1 → gMi l D (xw ad ci cl) (xt ci cl) (xa ad) y_Ways_between w_Ways_between rm_Ways_between [.ref (ad 17), .int b0, .int b1] sz σ τ (Q_Ways_between σ τ b0 b1))
    (I6 : MI → ML → Int32 → Int32 → Int32 → Int32 → Int32 → MI → ML → Prop) (m6 : MI → ML → Int32 → Int32 → Int32 → Int32 → Int32 → MI → ML → Nat)
    (v0 : ∀ (σ0 : MI) (τ0 : ML) (a1 : Int32) (a2 : Int32), pre σ0 τ0 a1 a2 → s_Plan_walkOf_0 P_Ways_between Q_Ways_between σ0 τ0 a1 a2 (fun z0 z1 z2 σ9 τ9 => I6 σ0 τ0 a1 a2 z0 z1 z2 σ9 τ9) (post σ0 τ0 a1 a2))
    (v6 : ∀ (σ0 : MI) (τ0 : ML) (a1 : Int32) (a2 : Int32) (x1 : Int32) (x5 : Int32) (x6 : Int32) (σ : MI) (τ : ML), I6 σ0 τ0 a1 a2 x1 x5 x6 σ τ → s_Plan_walkOf_6 P_Ways_between Q_Ways_between σ τ x1 x5 x6 (fun z0 z1 z2 σ9 τ9 => I6 σ0 τ0 a1 a2 z0 z1 z2 σ9 τ9 ∧ m6 σ0 τ0 a1 a2 z0 z1 z2 σ9 τ9 < m6 σ0 τ0 a1 a2 x1 x5 x6 σ τ) (post σ0 τ0 a1 a2)) :
    ∀ (sz : Nat) (σ0 : MI) (τ0 : ML) (a1 : Int32) (a2 : Int32), pre σ0 τ0 a1 a2 → gMv l D (xw ad ci cl) (xt ci cl) (xa ad) y_Plan_walkOf w_Plan_walkOf rm_Plan_walkOf [.ref (ad 22), .int a1, .int a2, .ref (ad 8), .ref (ad 17)] sz σ0 τ0 (post σ0 τ0 a1 a2) := by
  intro sz σ0 τ0 a1 a2 hpre
  refine gk_ofWv (cc := b_Plan_walkOf) (maxL := 8) (ret := none) (by decide) rfl xa_ok (Nat.le_of_ble_eq_true rfl) ?_
  intro p e s m below meth c ls hx hb hr hlocks hml hown hts hK hP hD hS hl
  have hl : lv_has ls 8 [(0, .ref (ad 22)), (1, .int a1), (2, .int a2), (3, .ref (ad 8)), (4, .ref (ad 17))] := hl
  have hown : s.vm.findClass R_Plan = some m.cls := hown
  have hL : ∀ n : Nat, (∀ (x1 : Int32) (x5 : Int32) (x6 : Int32) (σ : MI) (τ : ML) (H : Heap) (locs : List Loc) (ls : Array Slot), m6 σ0 τ0 a1 a2 x1 x5 x6 σ τ < n → I6 σ0 τ0 a1 a2 x1 x5 x6 σ τ → va_P D classes ((xw ad ci cl) σ τ) H → va_D (gA (xa ad) s.heap.size) ((xw ad ci cl) σ τ) → va_S (gA (xa ad) s.heap.size) s.heap H locs → lv_has ls 8 [(0, .ref (ad 22)), (1, .int x1), (3, .ref (ad 8)), (4, .ref (ad 17)), (5, .int x5), (6, .int x6)] → W p l e rm_Plan_walkOf s m [.ref (ad 22), .int a1, .int a2, .ref (ad 8), .ref (ad 17)].toArray below meth c H locs 0 0 (gQv D (xw ad ci cl) (xt ci cl) (xa ad) below [.ref (ad 22), .int a1, .int a2, .ref (ad 8), .ref (ad 17)] s (post σ0 τ0 a1 a2)) (F0 m 6 ls [])) := by
    intro n
    induction n with
    | zero => exact fun _ _ _ _ _ _ _ _ hn => absurd hn (Nat.not_lt_zero _)
    | succ n ih =>
      · intro x1 x5 x6 σ τ H locs ls hn hI hP hD hS hl
        have hv := v6 σ0 τ0 a1 a2 x1 x5 x6 σ τ hI
        unfold s_Plan_walkOf_6 at hv
        refine lv_iload hx hb d_Plan_walkOf_6 (lv_at hl 5 rfl) ?_
        refine lv_aload_n hx hb d_Plan_walkOf_8 rfl (lv_at hl 2 rfl) ?_
        refine va_get (D := D) (ci := 0) (v := .int (σ 8 0)) (C := R_Jobs) (T := F_Jobs) (N := 7) hx hb hts iw_Jobs hown hK hP 8 rfl rfl 0 (by decide) (hts _ t_w134) (fun _ h9 => h9) rfl d_Plan_walkOf_9 ?_
        refine lv_icmp_ge (tgt := 97) hx hb d_Plan_walkOf_12 (by decide) (fun hc => ?_) (fun hc => ?_)
        · replace hv := hv.1 hc
          exact gk_vret hx hb hr hlocks hK hP hD hS hv d_Plan_walkOf_97
        · replace hv := hv.2 hc
          refine lv_aload_n hx hb d_Plan_walkOf_15 rfl (lv_at hl 2 rfl) ?_
          refine va_get (D := D) (ci := 0) (v := .ref (ad 14)) (C := R_Jobs) (T := F_Jobs) (N := 7) hx hb hts iw_Jobs hown hK hP 8 rfl rfl 6 (by decide) (hts _ t_w135) (fun _ h9 => h9) rfl d_Plan_walkOf_16 ?_
          refine lv_iload hx hb d_Plan_walkOf_19 (lv_at hl 5 rfl) ?_
          obtain ⟨hi, hv⟩ := hv
          refine va_iald hx hb hK hP 14 0 rfl rfl hi d_Plan_walkOf_21 ?_
          refine lv_topi (fun y22 ey22 => ?_)
          replace hv := hv y22 ey22
          refine lv_istore (lv' := [(7, .int y22), (0, .ref (ad 22)), (1, .int x1), (3, .ref (ad 8)), (4, .ref (ad 17)), (5, .int x5), (6, .int x6)]) hx hb d_Plan_walkOf_22 hl (by decide) rfl (fun ls hl => ?_)
          refine lv_aload_n hx hb d_Plan_walkOf_24 rfl (lv_at hl 1 rfl) ?_
          refine va_get (D := D) (ci := 2) (v := .ref (ad 23)) (C := R_Plan) (T := F_Plan) (N := 9) hx hb hts iw_Plan hown hK hP 22 rfl rfl 4 (by decide) (hts _ t_w136) (fun _ h9 => h9) rfl d_Plan_walkOf_25 ?_
          refine lv_iload hx hb d_Plan_walkOf_28 (lv_at hl 0 rfl) ?_
          obtain ⟨hi, hv⟩ := hv
          refine va_iald hx hb hK hP 23 0 rfl rfl hi d_Plan_walkOf_30 ?_
          refine lv_iload_n hx hb d_Plan_walkOf_31 rfl (lv_at hl 2 rfl) ?_
          refine lv_icmp_ne (tgt := 91) hx hb d_Plan_walkOf_32 (by decide) (fun hc => ?_) (fun hc => ?_)
          · replace hv := hv.1 hc
            obtain ⟨y91, ey91⟩ : ∃ z : Int32, z = x6 + 1 := ⟨_, rfl⟩
            replace hv := hv y91 ey91
            refine lv_iinc (v := y91) (lv' := [(6, .int y91), (7, .int y22), (0, .ref (ad 22)), (1, .int x1), (3, .ref (ad 8)), (4, .ref (ad 17)), (5, .int x5)]) hx hb d_Plan_walkOf_91 hl (k := 6) rfl (by rw [ey91]; rfl) (by decide) rfl (fun ls hl => ?_)
            refine lv_goto (tgt := 6) hx hb d_Plan_walkOf_94 (by decide) ?_
            obtain ⟨hI, hm⟩ := hv
            exact ih x1 x5 y91 σ τ _ _ _ (Nat.lt_of_lt_of_le hm (Nat.le_of_lt_succ hn)) hI hP hD hS (lv_sub hl [2, 3, 4, 5, 6, 0] rfl)
          · replace hv := hv.2 hc
            refine lv_aload_n hx hb d_Plan_walkOf_35 rfl (lv_at hl 1 rfl) ?_
            refine va_get (D := D) (ci := 2) (v := .ref (ad 24)) (C := R_Plan) (T := F_Plan) (N := 9) hx hb hts iw_Plan hown hK hP 22 rfl rfl 5 (by decide) (hts _ t_w137) (fun _ h9 => h9) rfl d_Plan_walkOf_36 ?_
            refine lv_iload hx hb d_Plan_walkOf_39 (lv_at hl 0 rfl) ?_
            refine lv_aload hx hb d_Plan_walkOf_41 (lv_at hl 4 rfl) ?_
            refine lv_iload hx hb d_Plan_walkOf_43 (lv_at hl 5 rfl) ?_
            refine lv_aload_n hx hb d_Plan_walkOf_45 rfl (lv_at hl 3 rfl) ?_
            refine va_get (D := D) (ci := 0) (v := .ref (ad 13)) (C := R_Jobs) (T := F_Jobs) (N := 7) hx hb hts iw_Jobs hown hK hP 8 rfl rfl 5 (by decide) (hts _ t_w138) (fun _ h9 => h9) rfl d_Plan_walkOf_46 ?_
            refine lv_iload hx hb d_Plan_walkOf_49 (lv_at hl 0 rfl) ?_
            obtain ⟨hi, hv⟩ := hv
            refine va_iald hx hb hK hP 13 0 rfl rfl hi d_Plan_walkOf_51 ?_
            obtain ⟨hg, hv⟩ := hv
            refine gk_callVi (As := [.int x5, .int (σ 13 (Int32.toNatClampNeg y22))]) (rest := [.int y22, .ref (ad 24)]) (b := ad 17) ⟨hx, hb, hml, hown, hts⟩ (h_Ways_between _ σ τ x5 (σ 13 (Int32.toNatClampNeg y22)) hg) (gk_cwV 2 hts t_w97 rfl rfl rfl (hts _ t_w139) (hts _ t_w95) (hts _ t_w96) (hts _ t_w57) (by decide +kernel) ⟨Nat.le_of_ble_eq_true rfl, Nat.le_of_ble_eq_true rfl⟩) hK hP hD hS (va_recv hK hP (ci := 5) (q0 := 17) rfl rfl) rfl hl.1 rfl (lv_room (Nat.le_of_ble_eq_true rfl)) d_Plan_walkOf_52 ⟨Nat.zero_le _, Nat.zero_le _⟩ ?_
            intro r52 s52 t52 H locs hw hP hD hS
            replace hv := hv r52 s52 t52 hw
            obtain ⟨hi, hv⟩ := hv
            refine va_iast hx hb hK hP hD hS 24 0 rfl rfl hi d_Plan_walkOf_55 (fun H locs hP hD hS => ?_)
            rw [xa_24] at hP hD
            obtain ⟨s55, es55⟩ : ∃ z : MI, z = st2 s52 24 (Int32.toNatClampNeg y22) r52 := ⟨_, rfl⟩
            rw [← es55] at hP hD
            replace hv := hv s55 es55
            refine lv_aload_n hx hb d_Plan_walkOf_56 rfl (lv_at hl 1 rfl) ?_
            refine lv_dup hx hb d_Plan_walkOf_57 rfl ?_
            refine va_get (D := D) (ci := 2) (v := .int (s55 22 3)) (C := R_Plan) (T := F_Plan) (N := 9) hx hb hts iw_Plan hown hK hP 22 rfl rfl 3 (by decide) (hts _ t_w140) (fun _ h9 => h9) rfl d_Plan_walkOf_58 ?_
            refine lv_aload_n hx hb d_Plan_walkOf_61 rfl (lv_at hl 1 rfl) ?_
            refine va_get (D := D) (ci := 2) (v := .ref (ad 24)) (C := R_Plan) (T := F_Plan) (N := 9) hx hb hts iw_Plan hown hK hP 22 rfl rfl 5 (by decide) (hts _ t_w137) (fun _ h9 => h9) rfl d_Plan_walkOf_62 ?_
            refine lv_iload hx hb d_Plan_walkOf_65 (lv_at hl 0 rfl) ?_
            obtain ⟨hi, hv⟩ := hv
            refine va_iald hx hb hK hP 24 0 rfl rfl hi d_Plan_walkOf_67 ?_
            refine lv_iadd hx hb d_Plan_walkOf_68 ?_
            refine va_put (D := D) (ci := 2) (v := .int ((s55 22 3) + (s55 24 (Int32.toNatClampNeg y22)))) (ty := .int) (fs := [.int (s55 22 0), .int (s55 22 1), .int (s55 22 2), .int (s55 22 3), .ref (ad 23), .ref (ad 24), .ref (ad 25), .ref (ad 26), .ref (ad 27)]) (C := R_Plan) (T := F_Plan) (N := 9) hx hb hts iw_Plan ty_Plan ty_Plan_ok nn_Plan hown hK hP hD hS 22 rfl rfl 3 (by decide) (hts _ t_w140) (fun _ h9 => h9) rfl (by decide +kernel) rfl rfl (Nat.le_of_ble_eq_true rfl) d_Plan_walkOf_69 (fun H locs hP hD hS => ?_)
            rw [xf_22_3] at hP hD
            obtain ⟨s69, es69⟩ : ∃ z : MI, z = st2 s55 22 3 ((s55 22 3) + (s55 24 (Int32.toNatClampNeg y22))) := ⟨_, rfl⟩
            rw [← es69] at hP hD
            replace hv := hv s69 es69
            refine lv_aload_n hx hb d_Plan_walkOf_72 rfl (lv_at hl 1 rfl) ?_
            refine lv_dup hx hb d_Plan_walkOf_73 rfl ?_
            refine va_get (D := D) (ci := 2) (v := .int (s69 22 2)) (C := R_Plan) (T := F_Plan) (N := 9) hx hb hts iw_Plan hown hK hP 22 rfl rfl 2 (by decide) (hts _ t_w141) (fun _ h9 => h9) rfl d_Plan_walkOf_74 ?_
            refine lv_iconst (v := 1) hx hb d_Plan_walkOf_77 (by decide) ?_
            refine lv_iadd hx hb d_Plan_walkOf_78 ?_
            refine va_put (D := D) (ci := 2) (v := .int ((s69 22 2) + 1)) (ty := .int) (fs := [.int (s69 22 0), .int (s69 22 1), .int (s69 22 2), .int (s69 22 3), .ref (ad 23), .ref (ad 24), .ref (ad 25), .ref (ad 26), .ref (ad 27)]) (C := R_Plan) (T := F_Plan) (N := 9) hx hb hts iw_Plan ty_Plan ty_Plan_ok nn_Plan hown hK hP hD hS 22 rfl rfl 2 (by decide) (hts _ t_w141) (fun _ h9 => h9) rfl (by decide +kernel) rfl rfl (Nat.le_of_ble_eq_true rfl) d_Plan_walkOf_79 (fun H locs hP hD hS => ?_)
            rw [xf_22_2] at hP hD
            obtain ⟨s79, es79⟩ : ∃ z : MI, z = st2 s69 22 2 ((s69 22 2) + 1) := ⟨_, rfl⟩
            rw [← es79] at hP hD
            replace hv := hv s79 es79
            refine lv_aload_n hx hb d_Plan_walkOf_82 rfl (lv_at hl 3 rfl) ?_
            refine va_get (D := D) (ci := 0) (v := .ref (ad 13)) (C := R_Jobs) (T := F_Jobs) (N := 7) hx hb hts iw_Jobs hown hK hP 8 rfl rfl 5 (by decide) (hts _ t_w138) (fun _ h9 => h9) rfl d_Plan_walkOf_83 ?_
            refine lv_iload hx hb d_Plan_walkOf_86 (lv_at hl 0 rfl) ?_
            obtain ⟨hi, hv⟩ := hv
            refine va_iald hx hb hK hP 13 0 rfl rfl hi d_Plan_walkOf_88 ?_
            refine lv_topi (fun y89 ey89 => ?_)
            replace hv := hv y89 ey89
            refine lv_istore (lv' := [(5, .int y89), (7, .int y22), (0, .ref (ad 22)), (1, .int x1), (3, .ref (ad 8)), (4, .ref (ad 17)), (6, .int x6)]) hx hb d_Plan_walkOf_89 hl (by decide) rfl (fun ls hl => ?_)
            obtain ⟨y91, ey91⟩ : ∃ z : Int32, z = x6 + 1 := ⟨_, rfl⟩
            replace hv := hv y91 ey91
            refine lv_iinc (v := y91) (lv' := [(6, .int y91), (5, .int y89), (7, .int y22), (0, .ref (ad 22)), (1, .int x1), (3, .ref (ad 8)), (4, .ref (ad 17))]) hx hb d_Plan_walkOf_91 hl (k := 6) rfl (by rw [ey91]; rfl) (by decide) rfl (fun ls hl => ?_)
            refine lv_goto (tgt := 6) hx hb d_Plan_walkOf_94 (by decide) ?_
            obtain ⟨hI, hm⟩ := hv
            exact ih x1 y89 y91 s79 t52 _ _ _ (Nat.lt_of_lt_of_le hm (Nat.le_of_lt_succ hn)) hI hP hD hS (lv_sub hl [3, 4, 5, 6, 1, 0] rfl)
  have hv := v0 σ0 τ0 a1 a2 hpre
  unfold s_Plan_walkOf_0 at hv
  refine lv_iload_n hx hb d_Plan_walkOf_0 rfl (lv_at hl 2 rfl) ?_
  refine lv_istore (lv' := [(5, .int a2), (0, .ref (ad 22)), (1, .int a1), (2, .int a2), (3, .ref (ad 8)), (4, .ref (ad 17))]) hx hb d_Plan_walkOf_1 hl (by decide) rfl (fun ls hl => ?_)
  refine lv_iconst (v := 0) hx hb d_Plan_walkOf_3 (by decide) ?_
  refine lv_istore (lv' := [(6, .int 0), (5, .int a2), (0, .ref (ad 22)), (1, .int a1), (2, .int a2), (3, .ref (ad 8)), (4, .ref (ad 17))]) hx hb d_Plan_walkOf_4 hl (by decide) rfl (fun ls hl => ?_)
  exact (hL _) a1 a2 0 σ0 τ0 _ _ _ (Nat.lt_succ_self _) hv hP hD hS (lv_sub hl [2, 3, 5, 6, 1, 0] rfl)
theorem d_Plan_walk_0 : decode b_Plan_walk 0 = .ok (.aload_n 0, 1) := by decide +kernel
theorem d_Plan_walk_1 : decode b_Plan_walk 1 = .ok (.iconst 0, 1) := by decide +kernel
theorem d_Plan_walk_2 : decode b_Plan_walk 2 = .ok (.putfield 19, 3) := by decide +kernel
theorem d_Plan_walk_5 : decode b_Plan_walk 5 = .ok (.aload_n 0, 1) := by decide +kernel
theorem d_Plan_walk_6 : decode b_Plan_walk 6 = .ok (.iconst 0, 1) := by decide +kernel
theorem d_Plan_walk_7 : decode b_Plan_walk 7 = .ok (.putfield 22, 3) := by decide +kernel
theorem d_Plan_walk_10 : decode b_Plan_walk 10 = .ok (.iconst 0, 1) := by decide +kernel
theorem d_Plan_walk_11 : decode b_Plan_walk 11 = .ok (.istore 4, 2) := by decide +kernel
theorem d_Plan_walk_13 : decode b_Plan_walk 13 = .ok (.iload 4, 2) := by decide +kernel
theorem d_Plan_walk_15 : decode b_Plan_walk 15 = .ok (.aload_n 2, 1) := by decide +kernel
theorem d_Plan_walk_16 : decode b_Plan_walk 16 = .ok (.getfield 47, 3) := by decide +kernel
theorem d_Plan_walk_19 : decode b_Plan_walk 19 = .ok (.if_icmp .ge 17, 3) := by decide +kernel
theorem d_Plan_walk_22 : decode b_Plan_walk 22 = .ok (.aload_n 0, 1) := by decide +kernel
theorem d_Plan_walk_23 : decode b_Plan_walk 23 = .ok (.getfield 29, 3) := by decide +kernel
theorem d_Plan_walk_26 : decode b_Plan_walk 26 = .ok (.iload 4, 2) := by decide +kernel
theorem d_Plan_walk_28 : decode b_Plan_walk 28 = .ok (.iconst (-1), 1) := by decide +kernel
theorem d_Plan_walk_29 : decode b_Plan_walk 29 = .ok (.iastore, 1) := by decide +kernel
theorem d_Plan_walk_30 : decode b_Plan_walk 30 = .ok (.iinc 4 1, 3) := by decide +kernel
theorem d_Plan_walk_33 : decode b_Plan_walk 33 = .ok (.goto (-20), 3) := by decide +kernel
theorem d_Plan_walk_36 : decode b_Plan_walk 36 = .ok (.iconst 0, 1) := by decide +kernel
theorem d_Plan_walk_37 : decode b_Plan_walk 37 = .ok (.istore 4, 2) := by decide +kernel
theorem d_Plan_walk_39 : decode b_Plan_walk 39 = .ok (.iload 4, 2) := by decide +kernel
theorem d_Plan_walk_41 : decode b_Plan_walk 41 = .ok (.aload_n 1, 1) := by decide +kernel
theorem d_Plan_walk_42 : decode b_Plan_walk 42 = .ok (.getfield 52, 3) := by decide +kernel
theorem d_Plan_walk_45 : decode b_Plan_walk 45 = .ok (.if_icmp .ge 24, 3) := by decide +kernel
theorem d_Plan_walk_48 : decode b_Plan_walk 48 = .ok (.aload_n 0, 1) := by decide +kernel
theorem d_Plan_walk_49 : decode b_Plan_walk 49 = .ok (.iload 4, 2) := by decide +kernel
theorem d_Plan_walk_51 : decode b_Plan_walk 51 = .ok (.aload_n 1, 1) := by decide +kernel
theorem d_Plan_walk_52 : decode b_Plan_walk 52 = .ok (.getfield 55, 3) := by decide +kernel
theorem d_Plan_walk_55 : decode b_Plan_walk 55 = .ok (.iload 4, 2) := by decide +kernel
theorem d_Plan_walk_57 : decode b_Plan_walk 57 = .ok (.iaload, 1) := by decide +kernel
theorem d_Plan_walk_58 : decode b_Plan_walk 58 = .ok (.aload_n 2, 1) := by decide +kernel
theorem d_Plan_walk_59 : decode b_Plan_walk 59 = .ok (.aload_n 3, 1) := by decide +kernel
theorem d_Plan_walk_60 : decode b_Plan_walk 60 = .ok (.invokevirtual 58, 3) := by decide +kernel
theorem d_Plan_walk_63 : decode b_Plan_walk 63 = .ok (.iinc 4 1, 3) := by decide +kernel
theorem d_Plan_walk_66 : decode b_Plan_walk 66 = .ok (.goto (-27), 3) := by decide +kernel
theorem d_Plan_walk_69 : decode b_Plan_walk 69 = .ok (.return_, 1) := by decide +kernel
def s_Plan_walk_0 (P_Plan_walkOf : MI → ML → Int32 → Int32 → Prop) (Q_Plan_walkOf : MI → ML → Int32 → Int32 → MI → ML → Prop) (σ : MI) (τ : ML) (K13 : Int32 → MI → ML → Prop) (K39 : Int32 → MI → ML → Prop) (R : MI → ML → Prop) : Prop :=
  ∀ s2 : MI, s2 = st2 σ 22 2 0 → (∀ s7 : MI, s7 = st2 s2 22 3 0 → (K13 0 s7 τ))
def s_Plan_walk_13 (P_Plan_walkOf : MI → ML → Int32 → Int32 → Prop) (Q_Plan_walkOf : MI → ML → Int32 → Int32 → MI → ML → Prop) (σ : MI) (τ : ML) (x4 : Int32) (K13 : Int32 → MI → ML → Prop) (K39 : Int32 → MI → ML → Prop) (R : MI → ML → Prop) : Prop :=
  ((σ 8 0) ≤ x4 →
  (K39 0 σ τ)) ∧
  (¬ (σ 8 0) ≤ x4 →
  (vp_in x4 7 ∧ (∀ s29 : MI, s29 = st2 σ 24 (Int32.toNatClampNeg x4) ((-1)) → (∀ y30 : Int32, y30 = x4 + 1 → (K13 y30 s29 τ)))))
def s_Plan_walk_39 (P_Plan_walkOf : MI → ML → Int32 → Int32 → Prop) (Q_Plan_walkOf : MI → ML → Int32 → Int32 → MI → ML → Prop) (σ : MI) (τ : ML) (x4 : Int32) (K13 : Int32 → MI → ML → Prop) (K39 : Int32 → MI → ML → Prop) (R : MI → ML → Prop) : Prop :=
  ((σ 1 0) ≤ x4 →
  (R σ τ)) ∧
  (¬ (σ 1 0) ≤ x4 →
  (vp_in x4 4 ∧ (P_Plan_walkOf σ τ x4 (σ 5 (Int32.toNatClampNeg x4)) ∧ ∀ (s60 : MI) (t60 : ML), Q_Plan_walkOf σ τ x4 (σ 5 (Int32.toNatClampNeg x4)) s60 t60 → (∀ y63 : Int32, y63 = x4 + 1 → (K39 y63 s60 t60)))))
set_option maxHeartbeats 4000000 in
set_option maxRecDepth 100000 in
theorem k_Plan_walk (l : Launch) (D : va_G) (ad : Nat → Nat) (ci cl : ClassId)
    (pre : MI → ML → Prop) (post : MI → ML → MI → ML → Prop) (P_Plan_walkOf : MI → ML → Int32 → Int32 → Prop) (Q_Plan_walkOf : MI → ML → Int32 → Int32 → MI → ML → Prop)
    (h_Plan_walkOf : ∀ (sz : Nat) (σ : MI) (τ : ML) (b0 : Int32) (b1 : Int32), P_Plan_walkOf σ τ b0 b1 → gMv l D (xw ad ci cl) (xt ci cl) (xa ad) y_Plan_walkOf w_Plan_walkOf rm_Plan_walkOf [.ref (ad 22), .int b0, .int b1, .ref (ad 8), .ref (ad 17)] sz σ τ (Q_Plan_walkOf σ τ b0 b1))
    (I13 : MI → ML → Int32 → MI → ML → Prop) (m13 : MI → ML → Int32 → MI → ML → Nat)
    (I39 : MI → ML → Int32 → MI → ML → Prop) (m39 : MI → ML → Int32 → MI → ML → Nat)
    (v0 : ∀ (σ0 : MI) (τ0 : ML), pre σ0 τ0 → s_Plan_walk_0 P_Plan_walkOf Q_Plan_walkOf σ0 τ0 (fun z0 σ9 τ9 => I13 σ0 τ0 z0 σ9 τ9) (fun z0 σ9 τ9 => I39 σ0 τ0 z0 σ9 τ9) (post σ0 τ0))
    (v13 : ∀ (σ0 : MI) (τ0 : ML) (x4 : Int32) (σ : MI) (τ : ML), I13 σ0 τ0 x4 σ τ → s_Plan_walk_13 P_Plan_walkOf Q_Plan_walkOf σ τ x4 (fun z0 σ9 τ9 => I13 σ0 τ0 z0 σ9 τ9 ∧ m13 σ0 τ0 z0 σ9 τ9 < m13 σ0 τ0 x4 σ τ) (fun z0 σ9 τ9 => I39 σ0 τ0 z0 σ9 τ9 ∧ m39 σ0 τ0 z0 σ9 τ9 < m13 σ0 τ0 x4 σ τ) (post σ0 τ0))
    (v39 : ∀ (σ0 : MI) (τ0 : ML) (x4 : Int32) (σ : MI) (τ : ML), I39 σ0 τ0 x4 σ τ → s_Plan_walk_39 P_Plan_walkOf Q_Plan_walkOf σ τ x4 (fun z0 σ9 τ9 => I13 σ0 τ0 z0 σ9 τ9 ∧ m13 σ0 τ0 z0 σ9 τ9 < m39 σ0 τ0 x4 σ τ) (fun z0 σ9 τ9 => I39 σ0 τ0 z0 σ9 τ9 ∧ m39 σ0 τ0 z0 σ9 τ9 < m39 σ0 τ0 x4 σ τ) (post σ0 τ0)) :
    ∀ (sz : Nat) (σ0 : MI) (τ0 : ML), pre σ0 τ0 → gMv l D (xw ad ci cl) (xt ci cl) (xa ad) y_Plan_walk w_Plan_walk rm_Plan_walk [.ref (ad 22), .ref (ad 1), .ref (ad 8), .ref (ad 17)] sz σ0 τ0 (post σ0 τ0) := by
  intro sz σ0 τ0 hpre
  refine gk_ofWv (cc := b_Plan_walk) (maxL := 5) (ret := none) (by decide) rfl xa_ok (Nat.le_of_ble_eq_true rfl) ?_
  intro p e s m below meth c ls hx hb hr hlocks hml hown hts hK hP hD hS hl
  have hl : lv_has ls 5 [(0, .ref (ad 22)), (1, .ref (ad 1)), (2, .ref (ad 8)), (3, .ref (ad 17))] := hl
  have hown : s.vm.findClass R_Plan = some m.cls := hown
  have hL : ∀ n : Nat, (∀ (x4 : Int32) (σ : MI) (τ : ML) (H : Heap) (locs : List Loc) (ls : Array Slot), m13 σ0 τ0 x4 σ τ < n → I13 σ0 τ0 x4 σ τ → va_P D classes ((xw ad ci cl) σ τ) H → va_D (gA (xa ad) s.heap.size) ((xw ad ci cl) σ τ) → va_S (gA (xa ad) s.heap.size) s.heap H locs → lv_has ls 5 [(0, .ref (ad 22)), (1, .ref (ad 1)), (2, .ref (ad 8)), (3, .ref (ad 17)), (4, .int x4)] → W p l e rm_Plan_walk s m [.ref (ad 22), .ref (ad 1), .ref (ad 8), .ref (ad 17)].toArray below meth c H locs 0 0 (gQv D (xw ad ci cl) (xt ci cl) (xa ad) below [.ref (ad 22), .ref (ad 1), .ref (ad 8), .ref (ad 17)] s (post σ0 τ0)) (F0 m 13 ls [])) ∧
      (∀ (x4 : Int32) (σ : MI) (τ : ML) (H : Heap) (locs : List Loc) (ls : Array Slot), m39 σ0 τ0 x4 σ τ < n → I39 σ0 τ0 x4 σ τ → va_P D classes ((xw ad ci cl) σ τ) H → va_D (gA (xa ad) s.heap.size) ((xw ad ci cl) σ τ) → va_S (gA (xa ad) s.heap.size) s.heap H locs → lv_has ls 5 [(0, .ref (ad 22)), (1, .ref (ad 1)), (2, .ref (ad 8)), (3, .ref (ad 17)), (4, .int x4)] → W p l e rm_Plan_walk s m [.ref (ad 22), .ref (ad 1), .ref (ad 8), .ref (ad 17)].toArray below meth c H locs 0 0 (gQv D (xw ad ci cl) (xt ci cl) (xa ad) below [.ref (ad 22), .ref (ad 1), .ref (ad 8), .ref (ad 17)] s (post σ0 τ0)) (F0 m 39 ls [])) := by
    intro n
    induction n with
    | zero => exact ⟨fun _ _ _ _ _ _ hn => absurd hn (Nat.not_lt_zero _), fun _ _ _ _ _ _ hn => absurd hn (Nat.not_lt_zero _)⟩
    | succ n ih =>
      refine ⟨?_, ?_⟩
      · intro x4 σ τ H locs ls hn hI hP hD hS hl
        have hv := v13 σ0 τ0 x4 σ τ hI
        unfold s_Plan_walk_13 at hv
        refine lv_iload hx hb d_Plan_walk_13 (lv_at hl 4 rfl) ?_
        refine lv_aload_n hx hb d_Plan_walk_15 rfl (lv_at hl 2 rfl) ?_
        refine va_get (D := D) (ci := 0) (v := .int (σ 8 0)) (C := R_Jobs) (T := F_Jobs) (N := 7) hx hb hts iw_Jobs hown hK hP 8 rfl rfl 0 (by decide) (hts _ t_w134) (fun _ h9 => h9) rfl d_Plan_walk_16 ?_
        refine lv_icmp_ge (tgt := 36) hx hb d_Plan_walk_19 (by decide) (fun hc => ?_) (fun hc => ?_)
        · replace hv := hv.1 hc
          refine lv_iconst (v := 0) hx hb d_Plan_walk_36 (by decide) ?_
          refine lv_istore (lv' := [(4, .int 0), (0, .ref (ad 22)), (1, .ref (ad 1)), (2, .ref (ad 8)), (3, .ref (ad 17))]) hx hb d_Plan_walk_37 hl (by decide) rfl (fun ls hl => ?_)
          obtain ⟨hI, hm⟩ := hv
          exact ih.2 0 σ τ _ _ _ (Nat.lt_of_lt_of_le hm (Nat.le_of_lt_succ hn)) hI hP hD hS (lv_sub hl [1, 2, 3, 4, 0] rfl)
        · replace hv := hv.2 hc
          refine lv_aload_n hx hb d_Plan_walk_22 rfl (lv_at hl 0 rfl) ?_
          refine va_get (D := D) (ci := 2) (v := .ref (ad 24)) (C := R_Plan) (T := F_Plan) (N := 9) hx hb hts iw_Plan hown hK hP 22 rfl rfl 5 (by decide) (hts _ t_w137) (fun _ h9 => h9) rfl d_Plan_walk_23 ?_
          refine lv_iload hx hb d_Plan_walk_26 (lv_at hl 4 rfl) ?_
          refine lv_iconst (v := (-1)) hx hb d_Plan_walk_28 (by decide) ?_
          obtain ⟨hi, hv⟩ := hv
          refine va_iast hx hb hK hP hD hS 24 0 rfl rfl hi d_Plan_walk_29 (fun H locs hP hD hS => ?_)
          rw [xa_24] at hP hD
          obtain ⟨s29, es29⟩ : ∃ z : MI, z = st2 σ 24 (Int32.toNatClampNeg x4) ((-1)) := ⟨_, rfl⟩
          rw [← es29] at hP hD
          replace hv := hv s29 es29
          obtain ⟨y30, ey30⟩ : ∃ z : Int32, z = x4 + 1 := ⟨_, rfl⟩
          replace hv := hv y30 ey30
          refine lv_iinc (v := y30) (lv' := [(4, .int y30), (0, .ref (ad 22)), (1, .ref (ad 1)), (2, .ref (ad 8)), (3, .ref (ad 17))]) hx hb d_Plan_walk_30 hl (k := 4) rfl (by rw [ey30]; rfl) (by decide) rfl (fun ls hl => ?_)
          refine lv_goto (tgt := 13) hx hb d_Plan_walk_33 (by decide) ?_
          obtain ⟨hI, hm⟩ := hv
          exact ih.1 y30 s29 τ _ _ _ (Nat.lt_of_lt_of_le hm (Nat.le_of_lt_succ hn)) hI hP hD hS (lv_sub hl [1, 2, 3, 4, 0] rfl)
      · intro x4 σ τ H locs ls hn hI hP hD hS hl
        have hv := v39 σ0 τ0 x4 σ τ hI
        unfold s_Plan_walk_39 at hv
        refine lv_iload hx hb d_Plan_walk_39 (lv_at hl 4 rfl) ?_
        refine lv_aload_n hx hb d_Plan_walk_41 rfl (lv_at hl 1 rfl) ?_
        refine va_get (D := D) (ci := 1) (v := .int (σ 1 0)) (C := R_People) (T := F_People) (N := 7) hx hb hts iw_People hown hK hP 1 rfl rfl 0 (by decide) (hts _ t_w142) (fun _ h9 => h9) rfl d_Plan_walk_42 ?_
        refine lv_icmp_ge (tgt := 69) hx hb d_Plan_walk_45 (by decide) (fun hc => ?_) (fun hc => ?_)
        · replace hv := hv.1 hc
          exact gk_vret hx hb hr hlocks hK hP hD hS hv d_Plan_walk_69
        · replace hv := hv.2 hc
          refine lv_aload_n hx hb d_Plan_walk_48 rfl (lv_at hl 0 rfl) ?_
          refine lv_iload hx hb d_Plan_walk_49 (lv_at hl 4 rfl) ?_
          refine lv_aload_n hx hb d_Plan_walk_51 rfl (lv_at hl 1 rfl) ?_
          refine va_get (D := D) (ci := 1) (v := .ref (ad 5)) (C := R_People) (T := F_People) (N := 7) hx hb hts iw_People hown hK hP 1 rfl rfl 4 (by decide) (hts _ t_w143) (fun _ h9 => h9) rfl d_Plan_walk_52 ?_
          refine lv_iload hx hb d_Plan_walk_55 (lv_at hl 4 rfl) ?_
          obtain ⟨hi, hv⟩ := hv
          refine va_iald hx hb hK hP 5 0 rfl rfl hi d_Plan_walk_57 ?_
          refine lv_aload_n hx hb d_Plan_walk_58 rfl (lv_at hl 2 rfl) ?_
          refine lv_aload_n hx hb d_Plan_walk_59 rfl (lv_at hl 3 rfl) ?_
          obtain ⟨hg, hv⟩ := hv
          refine gk_callVv (As := [.int x4, .int (σ 5 (Int32.toNatClampNeg x4)), .ref (ad 8), .ref (ad 17)]) (rest := []) (b := ad 22) ⟨hx, hb, hml, hown, hts⟩ (h_Plan_walkOf _ σ τ x4 (σ 5 (Int32.toNatClampNeg x4)) hg) (gk_cwV 4 hts t_w147 rfl rfl rfl (hts _ t_w144) (hts _ t_w145) (hts _ t_w146) (hts _ t_w123) (by decide +kernel) ⟨Nat.le_of_ble_eq_true rfl, Nat.le_of_ble_eq_true rfl⟩) hK hP hD hS (va_recv hK hP (ci := 2) (q0 := 22) rfl rfl) rfl hl.1 rfl (lv_room (Nat.le_of_ble_eq_true rfl)) d_Plan_walk_60 ⟨Nat.zero_le _, Nat.zero_le _⟩ ?_
          intro s60 t60 H locs hw hP hD hS
          replace hv := hv s60 t60 hw
          obtain ⟨y63, ey63⟩ : ∃ z : Int32, z = x4 + 1 := ⟨_, rfl⟩
          replace hv := hv y63 ey63
          refine lv_iinc (v := y63) (lv' := [(4, .int y63), (0, .ref (ad 22)), (1, .ref (ad 1)), (2, .ref (ad 8)), (3, .ref (ad 17))]) hx hb d_Plan_walk_63 hl (k := 4) rfl (by rw [ey63]; rfl) (by decide) rfl (fun ls hl => ?_)
          refine lv_goto (tgt := 39) hx hb d_Plan_walk_66 (by decide) ?_
          obtain ⟨hI, hm⟩ := hv
          exact ih.2 y63 s60 t60 _ _ _ (Nat.lt_of_lt_of_le hm (Nat.le_of_lt_succ hn)) hI hP hD hS (lv_sub hl [1, 2, 3, 4, 0] rfl)
  have hv := v0 σ0 τ0 hpre
  unfold s_Plan_walk_0 at hv
  refine lv_aload_n hx hb d_Plan_walk_0 rfl (lv_at hl 0 rfl) ?_
  refine lv_iconst (v := 0) hx hb d_Plan_walk_1 (by decide) ?_
  refine va_put (D := D) (ci := 2) (v := .int 0) (ty := .int) (fs := [.int (σ0 22 0), .int (σ0 22 1), .int (σ0 22 2), .int (σ0 22 3), .ref (ad 23), .ref (ad 24), .ref (ad 25), .ref (ad 26), .ref (ad 27)]) (C := R_Plan) (T := F_Plan) (N := 9) hx hb hts iw_Plan ty_Plan ty_Plan_ok nn_Plan hown hK hP hD hS 22 rfl rfl 2 (by decide) (hts _ t_w141) (fun _ h9 => h9) rfl (by decide +kernel) rfl rfl (Nat.le_of_ble_eq_true rfl) d_Plan_walk_2 (fun H locs hP hD hS => ?_)
  rw [xf_22_2] at hP hD
  obtain ⟨s2, es2⟩ : ∃ z : MI, z = st2 σ0 22 2 0 := ⟨_, rfl⟩
  rw [← es2] at hP hD
  replace hv := hv s2 es2
  refine lv_aload_n hx hb d_Plan_walk_5 rfl (lv_at hl 0 rfl) ?_
  refine lv_iconst (v := 0) hx hb d_Plan_walk_6 (by decide) ?_
  refine va_put (D := D) (ci := 2) (v := .int 0) (ty := .int) (fs := [.int (s2 22 0), .int (s2 22 1), .int (s2 22 2), .int (s2 22 3), .ref (ad 23), .ref (ad 24), .ref (ad 25), .ref (ad 26), .ref (ad 27)]) (C := R_Plan) (T := F_Plan) (N := 9) hx hb hts iw_Plan ty_Plan ty_Plan_ok nn_Plan hown hK hP hD hS 22 rfl rfl 3 (by decide) (hts _ t_w140) (fun _ h9 => h9) rfl (by decide +kernel) rfl rfl (Nat.le_of_ble_eq_true rfl) d_Plan_walk_7 (fun H locs hP hD hS => ?_)
  rw [xf_22_3] at hP hD
  obtain ⟨s7, es7⟩ : ∃ z : MI, z = st2 s2 22 3 0 := ⟨_, rfl⟩
  rw [← es7] at hP hD
  replace hv := hv s7 es7
  refine lv_iconst (v := 0) hx hb d_Plan_walk_10 (by decide) ?_
  refine lv_istore (lv' := [(4, .int 0), (0, .ref (ad 22)), (1, .ref (ad 1)), (2, .ref (ad 8)), (3, .ref (ad 17))]) hx hb d_Plan_walk_11 hl (by decide) rfl (fun ls hl => ?_)
  exact (hL _).1 0 s7 τ0 _ _ _ (Nat.lt_succ_self _) hv hP hD hS (lv_sub hl [1, 2, 3, 4, 0] rfl)
theorem d_Jobs_overlap_0 : decode b_Jobs_overlap 0 = .ok (.aload_n 0, 1) := by decide +kernel
theorem d_Jobs_overlap_1 : decode b_Jobs_overlap 1 = .ok (.getfield 22, 3) := by decide +kernel
theorem d_Jobs_overlap_4 : decode b_Jobs_overlap 4 = .ok (.iload_n 1, 1) := by decide +kernel
theorem d_Jobs_overlap_5 : decode b_Jobs_overlap 5 = .ok (.iaload, 1) := by decide +kernel
theorem d_Jobs_overlap_6 : decode b_Jobs_overlap 6 = .ok (.aload_n 0, 1) := by decide +kernel
theorem d_Jobs_overlap_7 : decode b_Jobs_overlap 7 = .ok (.getfield 25, 3) := by decide +kernel
theorem d_Jobs_overlap_10 : decode b_Jobs_overlap 10 = .ok (.iload_n 2, 1) := by decide +kernel
theorem d_Jobs_overlap_11 : decode b_Jobs_overlap 11 = .ok (.iaload, 1) := by decide +kernel
theorem d_Jobs_overlap_12 : decode b_Jobs_overlap 12 = .ok (.if_icmp .ge 22, 3) := by decide +kernel
theorem d_Jobs_overlap_15 : decode b_Jobs_overlap 15 = .ok (.aload_n 0, 1) := by decide +kernel
theorem d_Jobs_overlap_16 : decode b_Jobs_overlap 16 = .ok (.getfield 22, 3) := by decide +kernel
theorem d_Jobs_overlap_19 : decode b_Jobs_overlap 19 = .ok (.iload_n 2, 1) := by decide +kernel
theorem d_Jobs_overlap_20 : decode b_Jobs_overlap 20 = .ok (.iaload, 1) := by decide +kernel
theorem d_Jobs_overlap_21 : decode b_Jobs_overlap 21 = .ok (.aload_n 0, 1) := by decide +kernel
theorem d_Jobs_overlap_22 : decode b_Jobs_overlap 22 = .ok (.getfield 25, 3) := by decide +kernel
theorem d_Jobs_overlap_25 : decode b_Jobs_overlap 25 = .ok (.iload_n 1, 1) := by decide +kernel
theorem d_Jobs_overlap_26 : decode b_Jobs_overlap 26 = .ok (.iaload, 1) := by decide +kernel
theorem d_Jobs_overlap_27 : decode b_Jobs_overlap 27 = .ok (.if_icmp .ge 7, 3) := by decide +kernel
theorem d_Jobs_overlap_30 : decode b_Jobs_overlap 30 = .ok (.iconst 1, 1) := by decide +kernel
theorem d_Jobs_overlap_31 : decode b_Jobs_overlap 31 = .ok (.goto 4, 3) := by decide +kernel
theorem d_Jobs_overlap_34 : decode b_Jobs_overlap 34 = .ok (.iconst 0, 1) := by decide +kernel
theorem d_Jobs_overlap_35 : decode b_Jobs_overlap 35 = .ok (.ireturn, 1) := by decide +kernel
def s_Jobs_overlap_0 (σ : MI) (τ : ML) (a1 : Int32) (a2 : Int32) (R : Int32 → MI → ML → Prop) : Prop :=
  vp_in a1 7 ∧ (vp_in a2 7 ∧ (((σ 12 (Int32.toNatClampNeg a2)) ≤ (σ 11 (Int32.toNatClampNeg a1)) →
  ((0 = (0 : Int32) ∨ 0 = (1 : Int32)) ∧ R 0 σ τ)) ∧
  (¬ (σ 12 (Int32.toNatClampNeg a2)) ≤ (σ 11 (Int32.toNatClampNeg a1)) →
  (vp_in a2 7 ∧ (vp_in a1 7 ∧ (((σ 12 (Int32.toNatClampNeg a1)) ≤ (σ 11 (Int32.toNatClampNeg a2)) →
    ((0 = (0 : Int32) ∨ 0 = (1 : Int32)) ∧ R 0 σ τ)) ∧
    (¬ (σ 12 (Int32.toNatClampNeg a1)) ≤ (σ 11 (Int32.toNatClampNeg a2)) →
    ((1 = (0 : Int32) ∨ 1 = (1 : Int32)) ∧ R 1 σ τ))))))))
set_option maxHeartbeats 4000000 in
set_option maxRecDepth 100000 in
theorem k_Jobs_overlap (l : Launch) (D : va_G) (ad : Nat → Nat) (ci cl : ClassId)
    (pre : MI → ML → Int32 → Int32 → Prop) (post : MI → ML → Int32 → Int32 → Int32 → MI → ML → Prop)
    (v0 : ∀ (σ0 : MI) (τ0 : ML) (a1 : Int32) (a2 : Int32), pre σ0 τ0 a1 a2 → s_Jobs_overlap_0 σ0 τ0 a1 a2 (post σ0 τ0 a1 a2)) :
    ∀ (sz : Nat) (σ0 : MI) (τ0 : ML) (a1 : Int32) (a2 : Int32), pre σ0 τ0 a1 a2 → gMi l D (xw ad ci cl) (xt ci cl) (xa ad) y_Jobs_overlap w_Jobs_overlap rm_Jobs_overlap [.ref (ad 8), .int a1, .int a2] sz σ0 τ0 (post σ0 τ0 a1 a2) := by
  intro sz σ0 τ0 a1 a2 hpre
  refine gk_ofWi (cc := b_Jobs_overlap) (maxL := 3) (ret := (some .boolean)) (by decide) rfl xa_ok (Nat.le_of_ble_eq_true rfl) ?_
  intro p e s m below meth c ls hx hb hr hlocks hml hown hts hK hP hD hS hl
  have hl : lv_has ls 3 [(0, .ref (ad 8)), (1, .int a1), (2, .int a2)] := hl
  have hown : s.vm.findClass R_Jobs = some m.cls := hown
  have hv := v0 σ0 τ0 a1 a2 hpre
  unfold s_Jobs_overlap_0 at hv
  refine lv_aload_n hx hb d_Jobs_overlap_0 rfl (lv_at hl 0 rfl) ?_
  refine va_get (D := D) (ci := 0) (v := .ref (ad 11)) (C := R_Jobs) (T := F_Jobs) (N := 7) hx hb hts iw_Jobs hown hK hP 8 rfl rfl 3 (by decide) (hts _ t_w42) (fun _ h9 => h9) rfl d_Jobs_overlap_1 ?_
  refine lv_iload_n hx hb d_Jobs_overlap_4 rfl (lv_at hl 1 rfl) ?_
  obtain ⟨hi, hv⟩ := hv
  refine va_iald hx hb hK hP 11 0 rfl rfl hi d_Jobs_overlap_5 ?_
  refine lv_aload_n hx hb d_Jobs_overlap_6 rfl (lv_at hl 0 rfl) ?_
  refine va_get (D := D) (ci := 0) (v := .ref (ad 12)) (C := R_Jobs) (T := F_Jobs) (N := 7) hx hb hts iw_Jobs hown hK hP 8 rfl rfl 4 (by decide) (hts _ t_w43) (fun _ h9 => h9) rfl d_Jobs_overlap_7 ?_
  refine lv_iload_n hx hb d_Jobs_overlap_10 rfl (lv_at hl 2 rfl) ?_
  obtain ⟨hi, hv⟩ := hv
  refine va_iald hx hb hK hP 12 0 rfl rfl hi d_Jobs_overlap_11 ?_
  refine lv_icmp_ge (tgt := 34) hx hb d_Jobs_overlap_12 (by decide) (fun hc => ?_) (fun hc => ?_)
  · replace hv := hv.1 hc
    refine lv_iconst (v := 0) hx hb d_Jobs_overlap_34 (by decide) ?_
    obtain ⟨hz, hv⟩ := hv
    exact gk_zret hx hb hr hlocks (gk_nz hz) hK hP hD hS hv d_Jobs_overlap_35
  · replace hv := hv.2 hc
    refine lv_aload_n hx hb d_Jobs_overlap_15 rfl (lv_at hl 0 rfl) ?_
    refine va_get (D := D) (ci := 0) (v := .ref (ad 11)) (C := R_Jobs) (T := F_Jobs) (N := 7) hx hb hts iw_Jobs hown hK hP 8 rfl rfl 3 (by decide) (hts _ t_w42) (fun _ h9 => h9) rfl d_Jobs_overlap_16 ?_
    refine lv_iload_n hx hb d_Jobs_overlap_19 rfl (lv_at hl 2 rfl) ?_
    obtain ⟨hi, hv⟩ := hv
    refine va_iald hx hb hK hP 11 0 rfl rfl hi d_Jobs_overlap_20 ?_
    refine lv_aload_n hx hb d_Jobs_overlap_21 rfl (lv_at hl 0 rfl) ?_
    refine va_get (D := D) (ci := 0) (v := .ref (ad 12)) (C := R_Jobs) (T := F_Jobs) (N := 7) hx hb hts iw_Jobs hown hK hP 8 rfl rfl 4 (by decide) (hts _ t_w43) (fun _ h9 => h9) rfl d_Jobs_overlap_22 ?_
    refine lv_iload_n hx hb d_Jobs_overlap_25 rfl (lv_at hl 1 rfl) ?_
    obtain ⟨hi, hv⟩ := hv
    refine va_iald hx hb hK hP 12 0 rfl rfl hi d_Jobs_overlap_26 ?_
    refine lv_icmp_ge (tgt := 34) hx hb d_Jobs_overlap_27 (by decide) (fun hc => ?_) (fun hc => ?_)
    · replace hv := hv.1 hc
      refine lv_iconst (v := 0) hx hb d_Jobs_overlap_34 (by decide) ?_
      obtain ⟨hz, hv⟩ := hv
      exact gk_zret hx hb hr hlocks (gk_nz hz) hK hP hD hS hv d_Jobs_overlap_35
    · replace hv := hv.2 hc
      refine lv_iconst (v := 1) hx hb d_Jobs_overlap_30 (by decide) ?_
      refine lv_goto (tgt := 35) hx hb d_Jobs_overlap_31 (by decide) ?_
      obtain ⟨hz, hv⟩ := hv
      exact gk_zret hx hb hr hlocks (gk_nz hz) hK hP hD hS hv d_Jobs_overlap_35
theorem d_Tugs_freeFor_0 : decode b_Tugs_freeFor 0 = .ok (.iconst 1, 1) := by decide +kernel
theorem d_Tugs_freeFor_1 : decode b_Tugs_freeFor 1 = .ok (.aload_n 0, 1) := by decide +kernel
theorem d_Tugs_freeFor_2 : decode b_Tugs_freeFor 2 = .ok (.getfield 9, 3) := by decide +kernel
theorem d_Tugs_freeFor_5 : decode b_Tugs_freeFor 5 = .ok (.ishl, 1) := by decide +kernel
theorem d_Tugs_freeFor_6 : decode b_Tugs_freeFor 6 = .ok (.iconst 1, 1) := by decide +kernel
theorem d_Tugs_freeFor_7 : decode b_Tugs_freeFor 7 = .ok (.isub, 1) := by decide +kernel
theorem d_Tugs_freeFor_8 : decode b_Tugs_freeFor 8 = .ok (.istore 4, 2) := by decide +kernel
theorem d_Tugs_freeFor_10 : decode b_Tugs_freeFor 10 = .ok (.iconst 0, 1) := by decide +kernel
theorem d_Tugs_freeFor_11 : decode b_Tugs_freeFor 11 = .ok (.istore 5, 2) := by decide +kernel
theorem d_Tugs_freeFor_13 : decode b_Tugs_freeFor 13 = .ok (.iload 5, 2) := by decide +kernel
theorem d_Tugs_freeFor_15 : decode b_Tugs_freeFor 15 = .ok (.aload_n 2, 1) := by decide +kernel
theorem d_Tugs_freeFor_16 : decode b_Tugs_freeFor 16 = .ok (.getfield 19, 3) := by decide +kernel
theorem d_Tugs_freeFor_19 : decode b_Tugs_freeFor 19 = .ok (.if_icmp .ge 33, 3) := by decide +kernel
theorem d_Tugs_freeFor_22 : decode b_Tugs_freeFor 22 = .ok (.aload_n 2, 1) := by decide +kernel
theorem d_Tugs_freeFor_23 : decode b_Tugs_freeFor 23 = .ok (.iload 5, 2) := by decide +kernel
theorem d_Tugs_freeFor_25 : decode b_Tugs_freeFor 25 = .ok (.iload_n 1, 1) := by decide +kernel
theorem d_Tugs_freeFor_26 : decode b_Tugs_freeFor 26 = .ok (.invokevirtual 45, 3) := by decide +kernel
theorem d_Tugs_freeFor_29 : decode b_Tugs_freeFor 29 = .ok (.ifCond .eq 17, 3) := by decide +kernel
theorem d_Tugs_freeFor_32 : decode b_Tugs_freeFor 32 = .ok (.iload 4, 2) := by decide +kernel
theorem d_Tugs_freeFor_34 : decode b_Tugs_freeFor 34 = .ok (.aload_n 3, 1) := by decide +kernel
theorem d_Tugs_freeFor_35 : decode b_Tugs_freeFor 35 = .ok (.getfield 22, 3) := by decide +kernel
theorem d_Tugs_freeFor_38 : decode b_Tugs_freeFor 38 = .ok (.iload 5, 2) := by decide +kernel
theorem d_Tugs_freeFor_40 : decode b_Tugs_freeFor 40 = .ok (.iaload, 1) := by decide +kernel
theorem d_Tugs_freeFor_41 : decode b_Tugs_freeFor 41 = .ok (.iconst (-1), 1) := by decide +kernel
theorem d_Tugs_freeFor_42 : decode b_Tugs_freeFor 42 = .ok (.ixor, 1) := by decide +kernel
theorem d_Tugs_freeFor_43 : decode b_Tugs_freeFor 43 = .ok (.iand, 1) := by decide +kernel
theorem d_Tugs_freeFor_44 : decode b_Tugs_freeFor 44 = .ok (.istore 4, 2) := by decide +kernel
theorem d_Tugs_freeFor_46 : decode b_Tugs_freeFor 46 = .ok (.iinc 5 1, 3) := by decide +kernel
theorem d_Tugs_freeFor_49 : decode b_Tugs_freeFor 49 = .ok (.goto (-36), 3) := by decide +kernel
theorem d_Tugs_freeFor_52 : decode b_Tugs_freeFor 52 = .ok (.iload 4, 2) := by decide +kernel
theorem d_Tugs_freeFor_54 : decode b_Tugs_freeFor 54 = .ok (.ireturn, 1) := by decide +kernel
def s_Tugs_freeFor_0 (P_Jobs_overlap : MI → ML → Int32 → Int32 → Prop) (Q_Jobs_overlap : MI → ML → Int32 → Int32 → Int32 → MI → ML → Prop) (σ : MI) (τ : ML) (a1 : Int32) (K13 : Int32 → Int32 → Int32 → MI → ML → Prop) (R : Int32 → MI → ML → Prop) : Prop :=
  ∀ y8 : Int32, y8 = (1 <<< ((σ 15 0) &&& 31)) - 1 → (K13 a1 y8 0 σ τ)
def s_Tugs_freeFor_13 (P_Jobs_overlap : MI → ML → Int32 → Int32 → Prop) (Q_Jobs_overlap : MI → ML → Int32 → Int32 → Int32 → MI → ML → Prop) (σ : MI) (τ : ML) (x1 : Int32) (x4 : Int32) (x5 : Int32) (K13 : Int32 → Int32 → Int32 → MI → ML → Prop) (R : Int32 → MI → ML → Prop) : Prop :=
  ((σ 8 0) ≤ x5 →
  (R x4 σ τ)) ∧
  (¬ (σ 8 0) ≤ x5 →
  (P_Jobs_overlap σ τ x5 x1 ∧ ∀ (r26 : Int32) (s26 : MI) (t26 : ML), Q_Jobs_overlap σ τ x5 x1 r26 s26 t26 → ((r26 = 0 →
    (∀ y46 : Int32, y46 = x5 + 1 → (K13 x1 x4 y46 s26 t26))) ∧
    (¬ r26 = 0 →
    (vp_in x5 7 ∧ (∀ y44 : Int32, y44 = x4 &&& ((s26 25 (Int32.toNatClampNeg x5)) ^^^ ((-1))) → (∀ y46 : Int32, y46 = x5 + 1 → (K13 x1 y44 y46 s26 t26))))))))
set_option maxHeartbeats 4000000 in
set_option maxRecDepth 100000 in
theorem k_Tugs_freeFor (l : Launch) (D : va_G) (ad : Nat → Nat) (ci cl : ClassId)
    (pre : MI → ML → Int32 → Prop) (post : MI → ML → Int32 → Int32 → MI → ML → Prop) (P_Jobs_overlap : MI → ML → Int32 → Int32 → Prop) (Q_Jobs_overlap : MI → ML → Int32 → Int32 → Int32 → MI → ML → Prop)
    (h_Jobs_overlap : ∀ (sz : Nat) (σ : MI) (τ : ML) (b0 : Int32) (b1 : Int32), P_Jobs_overlap σ τ b0 b1 → gMi l D (xw ad ci cl) (xt ci cl) (xa ad) y_Jobs_overlap w_Jobs_overlap rm_Jobs_overlap [.ref (ad 8), .int b0, .int b1] sz σ τ (Q_Jobs_overlap σ τ b0 b1))
    (I13 : MI → ML → Int32 → Int32 → Int32 → Int32 → MI → ML → Prop) (m13 : MI → ML → Int32 → Int32 → Int32 → Int32 → MI → ML → Nat)
    (v0 : ∀ (σ0 : MI) (τ0 : ML) (a1 : Int32), pre σ0 τ0 a1 → s_Tugs_freeFor_0 P_Jobs_overlap Q_Jobs_overlap σ0 τ0 a1 (fun z0 z1 z2 σ9 τ9 => I13 σ0 τ0 a1 z0 z1 z2 σ9 τ9) (post σ0 τ0 a1))
    (v13 : ∀ (σ0 : MI) (τ0 : ML) (a1 : Int32) (x1 : Int32) (x4 : Int32) (x5 : Int32) (σ : MI) (τ : ML), I13 σ0 τ0 a1 x1 x4 x5 σ τ → s_Tugs_freeFor_13 P_Jobs_overlap Q_Jobs_overlap σ τ x1 x4 x5 (fun z0 z1 z2 σ9 τ9 => I13 σ0 τ0 a1 z0 z1 z2 σ9 τ9 ∧ m13 σ0 τ0 a1 z0 z1 z2 σ9 τ9 < m13 σ0 τ0 a1 x1 x4 x5 σ τ) (post σ0 τ0 a1)) :
    ∀ (sz : Nat) (σ0 : MI) (τ0 : ML) (a1 : Int32), pre σ0 τ0 a1 → gMi l D (xw ad ci cl) (xt ci cl) (xa ad) y_Tugs_freeFor w_Tugs_freeFor rm_Tugs_freeFor [.ref (ad 15), .int a1, .ref (ad 8), .ref (ad 22)] sz σ0 τ0 (post σ0 τ0 a1) := by
  intro sz σ0 τ0 a1 hpre
  refine gk_ofWi (cc := b_Tugs_freeFor) (maxL := 6) (ret := (some .int)) (by decide) rfl xa_ok (Nat.le_of_ble_eq_true rfl) ?_
  intro p e s m below meth c ls hx hb hr hlocks hml hown hts hK hP hD hS hl
  have hl : lv_has ls 6 [(0, .ref (ad 15)), (1, .int a1), (2, .ref (ad 8)), (3, .ref (ad 22))] := hl
  have hown : s.vm.findClass R_Tugs = some m.cls := hown
  have hL : ∀ n : Nat, (∀ (x1 : Int32) (x4 : Int32) (x5 : Int32) (σ : MI) (τ : ML) (H : Heap) (locs : List Loc) (ls : Array Slot), m13 σ0 τ0 a1 x1 x4 x5 σ τ < n → I13 σ0 τ0 a1 x1 x4 x5 σ τ → va_P D classes ((xw ad ci cl) σ τ) H → va_D (gA (xa ad) s.heap.size) ((xw ad ci cl) σ τ) → va_S (gA (xa ad) s.heap.size) s.heap H locs → lv_has ls 6 [(1, .int x1), (2, .ref (ad 8)), (3, .ref (ad 22)), (4, .int x4), (5, .int x5)] → W p l e rm_Tugs_freeFor s m [.ref (ad 15), .int a1, .ref (ad 8), .ref (ad 22)].toArray below meth c H locs 0 0 (gQi D (xw ad ci cl) (xt ci cl) (xa ad) below [.ref (ad 15), .int a1, .ref (ad 8), .ref (ad 22)] s (post σ0 τ0 a1)) (F0 m 13 ls [])) := by
    intro n
    induction n with
    | zero => exact fun _ _ _ _ _ _ _ _ hn => absurd hn (Nat.not_lt_zero _)
    | succ n ih =>
      · intro x1 x4 x5 σ τ H locs ls hn hI hP hD hS hl
        have hv := v13 σ0 τ0 a1 x1 x4 x5 σ τ hI
        unfold s_Tugs_freeFor_13 at hv
        refine lv_iload hx hb d_Tugs_freeFor_13 (lv_at hl 4 rfl) ?_
        refine lv_aload_n hx hb d_Tugs_freeFor_15 rfl (lv_at hl 1 rfl) ?_
        refine va_get (D := D) (ci := 0) (v := .int (σ 8 0)) (C := R_Jobs) (T := F_Jobs) (N := 7) hx hb hts iw_Jobs hown hK hP 8 rfl rfl 0 (by decide) (hts _ t_w148) (fun _ h9 => h9) rfl d_Tugs_freeFor_16 ?_
        refine lv_icmp_ge (tgt := 52) hx hb d_Tugs_freeFor_19 (by decide) (fun hc => ?_) (fun hc => ?_)
        · replace hv := hv.1 hc
          refine lv_iload hx hb d_Tugs_freeFor_52 (lv_at hl 3 rfl) ?_
          exact gk_iret hx hb hr hlocks hK hP hD hS hv d_Tugs_freeFor_54
        · replace hv := hv.2 hc
          refine lv_aload_n hx hb d_Tugs_freeFor_22 rfl (lv_at hl 1 rfl) ?_
          refine lv_iload hx hb d_Tugs_freeFor_23 (lv_at hl 4 rfl) ?_
          refine lv_iload_n hx hb d_Tugs_freeFor_25 rfl (lv_at hl 0 rfl) ?_
          obtain ⟨hg, hv⟩ := hv
          refine gk_callVi (As := [.int x5, .int x1]) (rest := []) (b := ad 8) ⟨hx, hb, hml, hown, hts⟩ (h_Jobs_overlap _ σ τ x5 x1 hg) (gk_cwV 2 hts t_w152 rfl rfl rfl (hts _ t_w149) (hts _ t_w150) (hts _ t_w151) (hts _ t_w50) (by decide +kernel) ⟨Nat.le_of_ble_eq_true rfl, Nat.le_of_ble_eq_true rfl⟩) hK hP hD hS (va_recv hK hP (ci := 0) (q0 := 8) rfl rfl) rfl hl.1 rfl (lv_room (Nat.le_of_ble_eq_true rfl)) d_Tugs_freeFor_26 ⟨Nat.zero_le _, Nat.zero_le _⟩ ?_
          intro r26 s26 t26 H locs hw hP hD hS
          replace hv := hv r26 s26 t26 hw
          refine lv_if_eq (tgt := 46) hx hb d_Tugs_freeFor_29 (by decide) (fun hc => ?_) (fun hc => ?_)
          · replace hv := hv.1 hc
            obtain ⟨y46, ey46⟩ : ∃ z : Int32, z = x5 + 1 := ⟨_, rfl⟩
            replace hv := hv y46 ey46
            refine lv_iinc (v := y46) (lv' := [(5, .int y46), (1, .int x1), (2, .ref (ad 8)), (3, .ref (ad 22)), (4, .int x4)]) hx hb d_Tugs_freeFor_46 hl (k := 4) rfl (by rw [ey46]; rfl) (by decide) rfl (fun ls hl => ?_)
            refine lv_goto (tgt := 13) hx hb d_Tugs_freeFor_49 (by decide) ?_
            obtain ⟨hI, hm⟩ := hv
            exact ih x1 x4 y46 s26 t26 _ _ _ (Nat.lt_of_lt_of_le hm (Nat.le_of_lt_succ hn)) hI hP hD hS (lv_sub hl [1, 2, 3, 4, 0] rfl)
          · replace hv := hv.2 hc
            refine lv_iload hx hb d_Tugs_freeFor_32 (lv_at hl 3 rfl) ?_
            refine lv_aload_n hx hb d_Tugs_freeFor_34 rfl (lv_at hl 2 rfl) ?_
            refine va_get (D := D) (ci := 2) (v := .ref (ad 25)) (C := R_Plan) (T := F_Plan) (N := 9) hx hb hts iw_Plan hown hK hP 22 rfl rfl 6 (by decide) (hts _ t_w153) (fun _ h9 => h9) rfl d_Tugs_freeFor_35 ?_
            refine lv_iload hx hb d_Tugs_freeFor_38 (lv_at hl 4 rfl) ?_
            obtain ⟨hi, hv⟩ := hv
            refine va_iald hx hb hK hP 25 0 rfl rfl hi d_Tugs_freeFor_40 ?_
            refine lv_iconst (v := (-1)) hx hb d_Tugs_freeFor_41 (by decide) ?_
            refine lv_ixor hx hb d_Tugs_freeFor_42 ?_
            refine lv_iand hx hb d_Tugs_freeFor_43 ?_
            refine lv_topi (fun y44 ey44 => ?_)
            replace hv := hv y44 ey44
            refine lv_istore (lv' := [(4, .int y44), (1, .int x1), (2, .ref (ad 8)), (3, .ref (ad 22)), (5, .int x5)]) hx hb d_Tugs_freeFor_44 hl (by decide) rfl (fun ls hl => ?_)
            obtain ⟨y46, ey46⟩ : ∃ z : Int32, z = x5 + 1 := ⟨_, rfl⟩
            replace hv := hv y46 ey46
            refine lv_iinc (v := y46) (lv' := [(5, .int y46), (4, .int y44), (1, .int x1), (2, .ref (ad 8)), (3, .ref (ad 22))]) hx hb d_Tugs_freeFor_46 hl (k := 4) rfl (by rw [ey46]; rfl) (by decide) rfl (fun ls hl => ?_)
            refine lv_goto (tgt := 13) hx hb d_Tugs_freeFor_49 (by decide) ?_
            obtain ⟨hI, hm⟩ := hv
            exact ih x1 y44 y46 s26 t26 _ _ _ (Nat.lt_of_lt_of_le hm (Nat.le_of_lt_succ hn)) hI hP hD hS (lv_sub hl [2, 3, 4, 1, 0] rfl)
  have hv := v0 σ0 τ0 a1 hpre
  unfold s_Tugs_freeFor_0 at hv
  refine lv_iconst (v := 1) hx hb d_Tugs_freeFor_0 (by decide) ?_
  refine lv_aload_n hx hb d_Tugs_freeFor_1 rfl (lv_at hl 0 rfl) ?_
  refine va_get (D := D) (ci := 4) (v := .int (σ0 15 0)) (C := R_Tugs) (T := F_Tugs) (N := 2) hx hb hts iw_Tugs hown hK hP 15 rfl rfl 0 (by decide) (hts _ t_w30) (fun _ h9 => h9) rfl d_Tugs_freeFor_2 ?_
  refine lv_ishl hx hb d_Tugs_freeFor_5 ?_
  refine lv_iconst (v := 1) hx hb d_Tugs_freeFor_6 (by decide) ?_
  refine lv_isub hx hb d_Tugs_freeFor_7 ?_
  refine lv_topi (fun y8 ey8 => ?_)
  replace hv := hv y8 ey8
  refine lv_istore (lv' := [(4, .int y8), (0, .ref (ad 15)), (1, .int a1), (2, .ref (ad 8)), (3, .ref (ad 22))]) hx hb d_Tugs_freeFor_8 hl (by decide) rfl (fun ls hl => ?_)
  refine lv_iconst (v := 0) hx hb d_Tugs_freeFor_10 (by decide) ?_
  refine lv_istore (lv' := [(5, .int 0), (4, .int y8), (0, .ref (ad 15)), (1, .int a1), (2, .ref (ad 8)), (3, .ref (ad 22))]) hx hb d_Tugs_freeFor_11 hl (by decide) rfl (fun ls hl => ?_)
  exact (hL _) a1 y8 0 σ0 τ0 _ _ _ (Nat.lt_succ_self _) hv hP hD hS (lv_sub hl [3, 4, 5, 1, 0] rfl)
theorem d_Tugs_pullOf_0 : decode b_Tugs_pullOf 0 = .ok (.iconst 0, 1) := by decide +kernel
theorem d_Tugs_pullOf_1 : decode b_Tugs_pullOf 1 = .ok (.istore_n 2, 1) := by decide +kernel
theorem d_Tugs_pullOf_2 : decode b_Tugs_pullOf 2 = .ok (.iconst 0, 1) := by decide +kernel
theorem d_Tugs_pullOf_3 : decode b_Tugs_pullOf 3 = .ok (.istore_n 3, 1) := by decide +kernel
theorem d_Tugs_pullOf_4 : decode b_Tugs_pullOf 4 = .ok (.iload_n 3, 1) := by decide +kernel
theorem d_Tugs_pullOf_5 : decode b_Tugs_pullOf 5 = .ok (.aload_n 0, 1) := by decide +kernel
theorem d_Tugs_pullOf_6 : decode b_Tugs_pullOf 6 = .ok (.getfield 9, 3) := by decide +kernel
theorem d_Tugs_pullOf_9 : decode b_Tugs_pullOf 9 = .ok (.if_icmp .ge 26, 3) := by decide +kernel
theorem d_Tugs_pullOf_12 : decode b_Tugs_pullOf 12 = .ok (.iload_n 1, 1) := by decide +kernel
theorem d_Tugs_pullOf_13 : decode b_Tugs_pullOf 13 = .ok (.iload_n 3, 1) := by decide +kernel
theorem d_Tugs_pullOf_14 : decode b_Tugs_pullOf 14 = .ok (.ishr, 1) := by decide +kernel
theorem d_Tugs_pullOf_15 : decode b_Tugs_pullOf 15 = .ok (.iconst 1, 1) := by decide +kernel
theorem d_Tugs_pullOf_16 : decode b_Tugs_pullOf 16 = .ok (.iand, 1) := by decide +kernel
theorem d_Tugs_pullOf_17 : decode b_Tugs_pullOf 17 = .ok (.ifCond .eq 12, 3) := by decide +kernel
theorem d_Tugs_pullOf_20 : decode b_Tugs_pullOf 20 = .ok (.iload_n 2, 1) := by decide +kernel
theorem d_Tugs_pullOf_21 : decode b_Tugs_pullOf 21 = .ok (.aload_n 0, 1) := by decide +kernel
theorem d_Tugs_pullOf_22 : decode b_Tugs_pullOf 22 = .ok (.getfield 15, 3) := by decide +kernel
theorem d_Tugs_pullOf_25 : decode b_Tugs_pullOf 25 = .ok (.iload_n 3, 1) := by decide +kernel
theorem d_Tugs_pullOf_26 : decode b_Tugs_pullOf 26 = .ok (.iaload, 1) := by decide +kernel
theorem d_Tugs_pullOf_27 : decode b_Tugs_pullOf 27 = .ok (.iadd, 1) := by decide +kernel
theorem d_Tugs_pullOf_28 : decode b_Tugs_pullOf 28 = .ok (.istore_n 2, 1) := by decide +kernel
theorem d_Tugs_pullOf_29 : decode b_Tugs_pullOf 29 = .ok (.iinc 3 1, 3) := by decide +kernel
theorem d_Tugs_pullOf_32 : decode b_Tugs_pullOf 32 = .ok (.goto (-28), 3) := by decide +kernel
theorem d_Tugs_pullOf_35 : decode b_Tugs_pullOf 35 = .ok (.iload_n 2, 1) := by decide +kernel
theorem d_Tugs_pullOf_36 : decode b_Tugs_pullOf 36 = .ok (.ireturn, 1) := by decide +kernel
def s_Tugs_pullOf_0 (σ : MI) (τ : ML) (a1 : Int32) (K4 : Int32 → Int32 → Int32 → MI → ML → Prop) (R : Int32 → MI → ML → Prop) : Prop :=
  K4 a1 0 0 σ τ
def s_Tugs_pullOf_4 (σ : MI) (τ : ML) (x1 : Int32) (x2 : Int32) (x3 : Int32) (K4 : Int32 → Int32 → Int32 → MI → ML → Prop) (R : Int32 → MI → ML → Prop) : Prop :=
  ((σ 15 0) ≤ x3 →
  (R x2 σ τ)) ∧
  (¬ (σ 15 0) ≤ x3 →
  ((((x1 >>> (x3 &&& 31)) &&& 1) = 0 →
    (∀ y29 : Int32, y29 = x3 + 1 → (K4 x1 x2 y29 σ τ))) ∧
    (¬ ((x1 >>> (x3 &&& 31)) &&& 1) = 0 →
    (vp_in x3 6 ∧ (∀ y28 : Int32, y28 = x2 + (σ 16 (Int32.toNatClampNeg x3)) → (∀ y29 : Int32, y29 = x3 + 1 → (K4 x1 y28 y29 σ τ)))))))
set_option maxHeartbeats 4000000 in
set_option maxRecDepth 100000 in
theorem k_Tugs_pullOf (l : Launch) (D : va_G) (ad : Nat → Nat) (ci cl : ClassId)
    (pre : MI → ML → Int32 → Prop) (post : MI → ML → Int32 → Int32 → MI → ML → Prop)
    (I4 : MI → ML → Int32 → Int32 → Int32 → Int32 → MI → ML → Prop) (m4 : MI → ML → Int32 → Int32 → Int32 → Int32 → MI → ML → Nat)
    (v0 : ∀ (σ0 : MI) (τ0 : ML) (a1 : Int32), pre σ0 τ0 a1 → s_Tugs_pullOf_0 σ0 τ0 a1 (fun z0 z1 z2 σ9 τ9 => I4 σ0 τ0 a1 z0 z1 z2 σ9 τ9) (post σ0 τ0 a1))
    (v4 : ∀ (σ0 : MI) (τ0 : ML) (a1 : Int32) (x1 : Int32) (x2 : Int32) (x3 : Int32) (σ : MI) (τ : ML), I4 σ0 τ0 a1 x1 x2 x3 σ τ → s_Tugs_pullOf_4 σ τ x1 x2 x3 (fun z0 z1 z2 σ9 τ9 => I4 σ0 τ0 a1 z0 z1 z2 σ9 τ9 ∧ m4 σ0 τ0 a1 z0 z1 z2 σ9 τ9 < m4 σ0 τ0 a1 x1 x2 x3 σ τ) (post σ0 τ0 a1)) :
    ∀ (sz : Nat) (σ0 : MI) (τ0 : ML) (a1 : Int32), pre σ0 τ0 a1 → gMi l D (xw ad ci cl) (xt ci cl) (xa ad) y_Tugs_pullOf w_Tugs_pullOf rm_Tugs_pullOf [.ref (ad 15), .int a1] sz σ0 τ0 (post σ0 τ0 a1) := by
  intro sz σ0 τ0 a1 hpre
  refine gk_ofWi (cc := b_Tugs_pullOf) (maxL := 4) (ret := (some .int)) (by decide) rfl xa_ok (Nat.le_of_ble_eq_true rfl) ?_
  intro p e s m below meth c ls hx hb hr hlocks hml hown hts hK hP hD hS hl
  have hl : lv_has ls 4 [(0, .ref (ad 15)), (1, .int a1)] := hl
  have hown : s.vm.findClass R_Tugs = some m.cls := hown
  have hL : ∀ n : Nat, (∀ (x1 : Int32) (x2 : Int32) (x3 : Int32) (σ : MI) (τ : ML) (H : Heap) (locs : List Loc) (ls : Array Slot), m4 σ0 τ0 a1 x1 x2 x3 σ τ < n → I4 σ0 τ0 a1 x1 x2 x3 σ τ → va_P D classes ((xw ad ci cl) σ τ) H → va_D (gA (xa ad) s.heap.size) ((xw ad ci cl) σ τ) → va_S (gA (xa ad) s.heap.size) s.heap H locs → lv_has ls 4 [(0, .ref (ad 15)), (1, .int x1), (2, .int x2), (3, .int x3)] → W p l e rm_Tugs_pullOf s m [.ref (ad 15), .int a1].toArray below meth c H locs 0 0 (gQi D (xw ad ci cl) (xt ci cl) (xa ad) below [.ref (ad 15), .int a1] s (post σ0 τ0 a1)) (F0 m 4 ls [])) := by
    intro n
    induction n with
    | zero => exact fun _ _ _ _ _ _ _ _ hn => absurd hn (Nat.not_lt_zero _)
    | succ n ih =>
      · intro x1 x2 x3 σ τ H locs ls hn hI hP hD hS hl
        have hv := v4 σ0 τ0 a1 x1 x2 x3 σ τ hI
        unfold s_Tugs_pullOf_4 at hv
        refine lv_iload_n hx hb d_Tugs_pullOf_4 rfl (lv_at hl 3 rfl) ?_
        refine lv_aload_n hx hb d_Tugs_pullOf_5 rfl (lv_at hl 0 rfl) ?_
        refine va_get (D := D) (ci := 4) (v := .int (σ 15 0)) (C := R_Tugs) (T := F_Tugs) (N := 2) hx hb hts iw_Tugs hown hK hP 15 rfl rfl 0 (by decide) (hts _ t_w30) (fun _ h9 => h9) rfl d_Tugs_pullOf_6 ?_
        refine lv_icmp_ge (tgt := 35) hx hb d_Tugs_pullOf_9 (by decide) (fun hc => ?_) (fun hc => ?_)
        · replace hv := hv.1 hc
          refine lv_iload_n hx hb d_Tugs_pullOf_35 rfl (lv_at hl 2 rfl) ?_
          exact gk_iret hx hb hr hlocks hK hP hD hS hv d_Tugs_pullOf_36
        · replace hv := hv.2 hc
          refine lv_iload_n hx hb d_Tugs_pullOf_12 rfl (lv_at hl 1 rfl) ?_
          refine lv_iload_n hx hb d_Tugs_pullOf_13 rfl (lv_at hl 3 rfl) ?_
          refine lv_ishr hx hb d_Tugs_pullOf_14 ?_
          refine lv_iconst (v := 1) hx hb d_Tugs_pullOf_15 (by decide) ?_
          refine lv_iand hx hb d_Tugs_pullOf_16 ?_
          refine lv_if_eq (tgt := 29) hx hb d_Tugs_pullOf_17 (by decide) (fun hc => ?_) (fun hc => ?_)
          · replace hv := hv.1 hc
            obtain ⟨y29, ey29⟩ : ∃ z : Int32, z = x3 + 1 := ⟨_, rfl⟩
            replace hv := hv y29 ey29
            refine lv_iinc (v := y29) (lv' := [(3, .int y29), (0, .ref (ad 15)), (1, .int x1), (2, .int x2)]) hx hb d_Tugs_pullOf_29 hl (k := 3) rfl (by rw [ey29]; rfl) (by decide) rfl (fun ls hl => ?_)
            refine lv_goto (tgt := 4) hx hb d_Tugs_pullOf_32 (by decide) ?_
            obtain ⟨hI, hm⟩ := hv
            exact ih x1 x2 y29 σ τ _ _ _ (Nat.lt_of_lt_of_le hm (Nat.le_of_lt_succ hn)) hI hP hD hS (lv_sub hl [1, 2, 3, 0] rfl)
          · replace hv := hv.2 hc
            refine lv_iload_n hx hb d_Tugs_pullOf_20 rfl (lv_at hl 2 rfl) ?_
            refine lv_aload_n hx hb d_Tugs_pullOf_21 rfl (lv_at hl 0 rfl) ?_
            refine va_get (D := D) (ci := 4) (v := .ref (ad 16)) (C := R_Tugs) (T := F_Tugs) (N := 2) hx hb hts iw_Tugs hown hK hP 15 rfl rfl 1 (by decide) (hts _ t_w31) (fun _ h9 => h9) rfl d_Tugs_pullOf_22 ?_
            refine lv_iload_n hx hb d_Tugs_pullOf_25 rfl (lv_at hl 3 rfl) ?_
            obtain ⟨hi, hv⟩ := hv
            refine va_iald hx hb hK hP 16 0 rfl rfl hi d_Tugs_pullOf_26 ?_
            refine lv_iadd hx hb d_Tugs_pullOf_27 ?_
            refine lv_topi (fun y28 ey28 => ?_)
            replace hv := hv y28 ey28
            refine lv_istore_n (lv' := [(2, .int y28), (0, .ref (ad 15)), (1, .int x1), (3, .int x3)]) hx hb d_Tugs_pullOf_28 rfl hl (by decide) rfl (fun ls hl => ?_)
            obtain ⟨y29, ey29⟩ : ∃ z : Int32, z = x3 + 1 := ⟨_, rfl⟩
            replace hv := hv y29 ey29
            refine lv_iinc (v := y29) (lv' := [(3, .int y29), (2, .int y28), (0, .ref (ad 15)), (1, .int x1)]) hx hb d_Tugs_pullOf_29 hl (k := 3) rfl (by rw [ey29]; rfl) (by decide) rfl (fun ls hl => ?_)
            refine lv_goto (tgt := 4) hx hb d_Tugs_pullOf_32 (by decide) ?_
            obtain ⟨hI, hm⟩ := hv
            exact ih x1 y28 y29 σ τ _ _ _ (Nat.lt_of_lt_of_le hm (Nat.le_of_lt_succ hn)) hI hP hD hS (lv_sub hl [2, 3, 1, 0] rfl)
  have hv := v0 σ0 τ0 a1 hpre
  unfold s_Tugs_pullOf_0 at hv
  refine lv_iconst (v := 0) hx hb d_Tugs_pullOf_0 (by decide) ?_
  refine lv_istore_n (lv' := [(2, .int 0), (0, .ref (ad 15)), (1, .int a1)]) hx hb d_Tugs_pullOf_1 rfl hl (by decide) rfl (fun ls hl => ?_)
  refine lv_iconst (v := 0) hx hb d_Tugs_pullOf_2 (by decide) ?_
  refine lv_istore_n (lv' := [(3, .int 0), (2, .int 0), (0, .ref (ad 15)), (1, .int a1)]) hx hb d_Tugs_pullOf_3 rfl hl (by decide) rfl (fun ls hl => ?_)
  exact (hL _) a1 0 0 σ0 τ0 _ _ _ (Nat.lt_succ_self _) hv hP hD hS (lv_sub hl [2, 3, 1, 0] rfl)
theorem d_Tugs_isBetter_0 : decode b_Tugs_isBetter 0 = .ok (.iload_n 1, 1) := by decide +kernel
theorem d_Tugs_isBetter_1 : decode b_Tugs_isBetter 1 = .ok (.invokestatic 56, 3) := by decide +kernel
theorem d_Tugs_isBetter_4 : decode b_Tugs_isBetter 4 = .ok (.iload_n 2, 1) := by decide +kernel
theorem d_Tugs_isBetter_5 : decode b_Tugs_isBetter 5 = .ok (.invokestatic 56, 3) := by decide +kernel
theorem d_Tugs_isBetter_8 : decode b_Tugs_isBetter 8 = .ok (.isub, 1) := by decide +kernel
theorem d_Tugs_isBetter_9 : decode b_Tugs_isBetter 9 = .ok (.istore_n 3, 1) := by decide +kernel
theorem d_Tugs_isBetter_10 : decode b_Tugs_isBetter 10 = .ok (.iload_n 3, 1) := by decide +kernel
theorem d_Tugs_isBetter_11 : decode b_Tugs_isBetter 11 = .ok (.ifCond .eq 13, 3) := by decide +kernel
theorem d_Tugs_isBetter_14 : decode b_Tugs_isBetter 14 = .ok (.iload_n 3, 1) := by decide +kernel
theorem d_Tugs_isBetter_15 : decode b_Tugs_isBetter 15 = .ok (.ifCond .ge 7, 3) := by decide +kernel
theorem d_Tugs_isBetter_18 : decode b_Tugs_isBetter 18 = .ok (.iconst 1, 1) := by decide +kernel
theorem d_Tugs_isBetter_19 : decode b_Tugs_isBetter 19 = .ok (.goto 4, 3) := by decide +kernel
theorem d_Tugs_isBetter_22 : decode b_Tugs_isBetter 22 = .ok (.iconst 0, 1) := by decide +kernel
theorem d_Tugs_isBetter_23 : decode b_Tugs_isBetter 23 = .ok (.ireturn, 1) := by decide +kernel
theorem d_Tugs_isBetter_24 : decode b_Tugs_isBetter 24 = .ok (.aload_n 0, 1) := by decide +kernel
theorem d_Tugs_isBetter_25 : decode b_Tugs_isBetter 25 = .ok (.iload_n 1, 1) := by decide +kernel
theorem d_Tugs_isBetter_26 : decode b_Tugs_isBetter 26 = .ok (.invokevirtual 49, 3) := by decide +kernel
theorem d_Tugs_isBetter_29 : decode b_Tugs_isBetter 29 = .ok (.aload_n 0, 1) := by decide +kernel
theorem d_Tugs_isBetter_30 : decode b_Tugs_isBetter 30 = .ok (.iload_n 2, 1) := by decide +kernel
theorem d_Tugs_isBetter_31 : decode b_Tugs_isBetter 31 = .ok (.invokevirtual 49, 3) := by decide +kernel
theorem d_Tugs_isBetter_34 : decode b_Tugs_isBetter 34 = .ok (.isub, 1) := by decide +kernel
theorem d_Tugs_isBetter_35 : decode b_Tugs_isBetter 35 = .ok (.istore 4, 2) := by decide +kernel
theorem d_Tugs_isBetter_37 : decode b_Tugs_isBetter 37 = .ok (.iload 4, 2) := by decide +kernel
theorem d_Tugs_isBetter_39 : decode b_Tugs_isBetter 39 = .ok (.ifCond .eq 14, 3) := by decide +kernel
theorem d_Tugs_isBetter_42 : decode b_Tugs_isBetter 42 = .ok (.iload 4, 2) := by decide +kernel
theorem d_Tugs_isBetter_44 : decode b_Tugs_isBetter 44 = .ok (.ifCond .ge 7, 3) := by decide +kernel
theorem d_Tugs_isBetter_47 : decode b_Tugs_isBetter 47 = .ok (.iconst 1, 1) := by decide +kernel
theorem d_Tugs_isBetter_48 : decode b_Tugs_isBetter 48 = .ok (.goto 4, 3) := by decide +kernel
theorem d_Tugs_isBetter_51 : decode b_Tugs_isBetter 51 = .ok (.iconst 0, 1) := by decide +kernel
theorem d_Tugs_isBetter_52 : decode b_Tugs_isBetter 52 = .ok (.ireturn, 1) := by decide +kernel
theorem d_Tugs_isBetter_53 : decode b_Tugs_isBetter 53 = .ok (.iload_n 1, 1) := by decide +kernel
theorem d_Tugs_isBetter_54 : decode b_Tugs_isBetter 54 = .ok (.iload_n 2, 1) := by decide +kernel
theorem d_Tugs_isBetter_55 : decode b_Tugs_isBetter 55 = .ok (.ixor, 1) := by decide +kernel
theorem d_Tugs_isBetter_56 : decode b_Tugs_isBetter 56 = .ok (.istore 5, 2) := by decide +kernel
theorem d_Tugs_isBetter_58 : decode b_Tugs_isBetter 58 = .ok (.iload_n 1, 1) := by decide +kernel
theorem d_Tugs_isBetter_59 : decode b_Tugs_isBetter 59 = .ok (.iload 5, 2) := by decide +kernel
theorem d_Tugs_isBetter_61 : decode b_Tugs_isBetter 61 = .ok (.iand, 1) := by decide +kernel
theorem d_Tugs_isBetter_62 : decode b_Tugs_isBetter 62 = .ok (.iload 5, 2) := by decide +kernel
theorem d_Tugs_isBetter_64 : decode b_Tugs_isBetter 64 = .ok (.ineg, 1) := by decide +kernel
theorem d_Tugs_isBetter_65 : decode b_Tugs_isBetter 65 = .ok (.iand, 1) := by decide +kernel
theorem d_Tugs_isBetter_66 : decode b_Tugs_isBetter 66 = .ok (.ifCond .eq 7, 3) := by decide +kernel
theorem d_Tugs_isBetter_69 : decode b_Tugs_isBetter 69 = .ok (.iconst 1, 1) := by decide +kernel
theorem d_Tugs_isBetter_70 : decode b_Tugs_isBetter 70 = .ok (.goto 4, 3) := by decide +kernel
theorem d_Tugs_isBetter_73 : decode b_Tugs_isBetter 73 = .ok (.iconst 0, 1) := by decide +kernel
theorem d_Tugs_isBetter_74 : decode b_Tugs_isBetter 74 = .ok (.ireturn, 1) := by decide +kernel
def s_Tugs_isBetter_0 (P_Integer_bitCount : MI → ML → Int32 → Prop) (Q_Integer_bitCount : MI → ML → Int32 → Int32 → MI → ML → Prop) (P_Tugs_pullOf : MI → ML → Int32 → Prop) (Q_Tugs_pullOf : MI → ML → Int32 → Int32 → MI → ML → Prop) (σ : MI) (τ : ML) (a1 : Int32) (a2 : Int32) (R : Int32 → MI → ML → Prop) : Prop :=
  P_Integer_bitCount σ τ a1 ∧ ∀ (r1 : Int32) (s1 : MI) (t1 : ML), Q_Integer_bitCount σ τ a1 r1 s1 t1 → (P_Integer_bitCount s1 t1 a2 ∧ ∀ (r5 : Int32) (s5 : MI) (t5 : ML), Q_Integer_bitCount s1 t1 a2 r5 s5 t5 → (∀ y9 : Int32, y9 = r1 - r5 → ((y9 = 0 →
  (P_Tugs_pullOf s5 t5 a1 ∧ ∀ (r26 : Int32) (s26 : MI) (t26 : ML), Q_Tugs_pullOf s5 t5 a1 r26 s26 t26 → (P_Tugs_pullOf s26 t26 a2 ∧ ∀ (r31 : Int32) (s31 : MI) (t31 : ML), Q_Tugs_pullOf s26 t26 a2 r31 s31 t31 → (∀ y35 : Int32, y35 = r26 - r31 → ((y35 = 0 →
    (∀ y56 : Int32, y56 = a1 ^^^ a2 → ((((a1 &&& y56) &&& (-y56)) = 0 →
      ((0 = (0 : Int32) ∨ 0 = (1 : Int32)) ∧ R 0 s31 t31)) ∧
      (¬ ((a1 &&& y56) &&& (-y56)) = 0 →
      ((1 = (0 : Int32) ∨ 1 = (1 : Int32)) ∧ R 1 s31 t31))))) ∧
    (¬ y35 = 0 →
    ((0 ≤ y35 →
      ((0 = (0 : Int32) ∨ 0 = (1 : Int32)) ∧ R 0 s31 t31)) ∧
      (¬ 0 ≤ y35 →
      ((1 = (0 : Int32) ∨ 1 = (1 : Int32)) ∧ R 1 s31 t31))))))))) ∧
  (¬ y9 = 0 →
  ((0 ≤ y9 →
    ((0 = (0 : Int32) ∨ 0 = (1 : Int32)) ∧ R 0 s5 t5)) ∧
    (¬ 0 ≤ y9 →
    ((1 = (0 : Int32) ∨ 1 = (1 : Int32)) ∧ R 1 s5 t5)))))))
set_option maxHeartbeats 4000000 in
set_option maxRecDepth 100000 in
theorem k_Tugs_isBetter (l : Launch) (D : va_G) (ad : Nat → Nat) (ci cl : ClassId)
    (pre : MI → ML → Int32 → Int32 → Prop) (post : MI → ML → Int32 → Int32 → Int32 → MI → ML → Prop) (P_Integer_bitCount : MI → ML → Int32 → Prop) (Q_Integer_bitCount : MI → ML → Int32 → Int32 → MI → ML → Prop) (P_Tugs_pullOf : MI → ML → Int32 → Prop) (Q_Tugs_pullOf : MI → ML → Int32 → Int32 → MI → ML → Prop)
    (h_Integer_bitCount : ∀ (sz : Nat) (σ : MI) (τ : ML) (b0 : Int32), P_Integer_bitCount σ τ b0 → gMi l D (xw ad ci cl) (xt ci cl) (xa ad) y_Integer_bitCount w_Integer_bitCount rm_Integer_bitCount [.int b0] sz σ τ (Q_Integer_bitCount σ τ b0))
    (h_Tugs_pullOf : ∀ (sz : Nat) (σ : MI) (τ : ML) (b0 : Int32), P_Tugs_pullOf σ τ b0 → gMi l D (xw ad ci cl) (xt ci cl) (xa ad) y_Tugs_pullOf w_Tugs_pullOf rm_Tugs_pullOf [.ref (ad 15), .int b0] sz σ τ (Q_Tugs_pullOf σ τ b0))
    (v0 : ∀ (σ0 : MI) (τ0 : ML) (a1 : Int32) (a2 : Int32), pre σ0 τ0 a1 a2 → s_Tugs_isBetter_0 P_Integer_bitCount Q_Integer_bitCount P_Tugs_pullOf Q_Tugs_pullOf σ0 τ0 a1 a2 (post σ0 τ0 a1 a2)) :
    ∀ (sz : Nat) (σ0 : MI) (τ0 : ML) (a1 : Int32) (a2 : Int32), pre σ0 τ0 a1 a2 → gMi l D (xw ad ci cl) (xt ci cl) (xa ad) y_Tugs_isBetter w_Tugs_isBetter rm_Tugs_isBetter [.ref (ad 15), .int a1, .int a2] sz σ0 τ0 (post σ0 τ0 a1 a2) := by
  intro sz σ0 τ0 a1 a2 hpre
  refine gk_ofWi (cc := b_Tugs_isBetter) (maxL := 6) (ret := (some .boolean)) (by decide) rfl xa_ok (Nat.le_of_ble_eq_true rfl) ?_
  intro p e s m below meth c ls hx hb hr hlocks hml hown hts hK hP hD hS hl
  have hl : lv_has ls 6 [(0, .ref (ad 15)), (1, .int a1), (2, .int a2)] := hl
  have hown : s.vm.findClass R_Tugs = some m.cls := hown
  have hv := v0 σ0 τ0 a1 a2 hpre
  unfold s_Tugs_isBetter_0 at hv
  refine lv_iload_n hx hb d_Tugs_isBetter_0 rfl (lv_at hl 1 rfl) ?_
  obtain ⟨hg, hv⟩ := hv
  refine gk_callSi (As := [.int a1]) (rest := []) ⟨hx, hb, hml, hown, hts⟩ (h_Integer_bitCount _ σ0 τ0 a1 hg) (gk_cwS 1 hts t_w80 rfl rfl rfl (hts _ t_w154) (hts _ t_w78) (hts _ t_w79) (by decide +kernel) ⟨Nat.le_of_ble_eq_true rfl, Nat.le_of_ble_eq_true rfl⟩) hK hP hD hS rfl hl.1 rfl (lv_room (Nat.le_of_ble_eq_true rfl)) d_Tugs_isBetter_1 ⟨Nat.zero_le _, Nat.zero_le _⟩ ?_
  intro r1 s1 t1 H locs hw hP hD hS
  replace hv := hv r1 s1 t1 hw
  refine lv_iload_n hx hb d_Tugs_isBetter_4 rfl (lv_at hl 2 rfl) ?_
  obtain ⟨hg, hv⟩ := hv
  refine gk_callSi (As := [.int a2]) (rest := [.int r1]) ⟨hx, hb, hml, hown, hts⟩ (h_Integer_bitCount _ s1 t1 a2 hg) (gk_cwS 1 hts t_w80 rfl rfl rfl (hts _ t_w154) (hts _ t_w78) (hts _ t_w79) (by decide +kernel) ⟨Nat.le_of_ble_eq_true rfl, Nat.le_of_ble_eq_true rfl⟩) hK hP hD hS rfl hl.1 rfl (lv_room (Nat.le_of_ble_eq_true rfl)) d_Tugs_isBetter_5 ⟨Nat.zero_le _, Nat.zero_le _⟩ ?_
  intro r5 s5 t5 H locs hw hP hD hS
  replace hv := hv r5 s5 t5 hw
  refine lv_isub hx hb d_Tugs_isBetter_8 ?_
  refine lv_topi (fun y9 ey9 => ?_)
  replace hv := hv y9 ey9
  refine lv_istore_n (lv' := [(3, .int y9), (0, .ref (ad 15)), (1, .int a1), (2, .int a2)]) hx hb d_Tugs_isBetter_9 rfl hl (by decide) rfl (fun ls hl => ?_)
  refine lv_iload_n hx hb d_Tugs_isBetter_10 rfl (lv_at hl 0 rfl) ?_
  refine lv_if_eq (tgt := 24) hx hb d_Tugs_isBetter_11 (by decide) (fun hc => ?_) (fun hc => ?_)
  · replace hv := hv.1 hc
    refine lv_aload_n hx hb d_Tugs_isBetter_24 rfl (lv_at hl 1 rfl) ?_
    refine lv_iload_n hx hb d_Tugs_isBetter_25 rfl (lv_at hl 2 rfl) ?_
    obtain ⟨hg, hv⟩ := hv
    refine gk_callVi (As := [.int a1]) (rest := []) (b := ad 15) ⟨hx, hb, hml, hown, hts⟩ (h_Tugs_pullOf _ s5 t5 a1 hg) (gk_cwV 1 hts t_w158 rfl rfl rfl (hts _ t_w155) (hts _ t_w156) (hts _ t_w157) (hts _ t_w37) (by decide +kernel) ⟨Nat.le_of_ble_eq_true rfl, Nat.le_of_ble_eq_true rfl⟩) hK hP hD hS (va_recv hK hP (ci := 4) (q0 := 15) rfl rfl) rfl hl.1 rfl (lv_room (Nat.le_of_ble_eq_true rfl)) d_Tugs_isBetter_26 ⟨Nat.zero_le _, Nat.zero_le _⟩ ?_
    intro r26 s26 t26 H locs hw hP hD hS
    replace hv := hv r26 s26 t26 hw
    refine lv_aload_n hx hb d_Tugs_isBetter_29 rfl (lv_at hl 1 rfl) ?_
    refine lv_iload_n hx hb d_Tugs_isBetter_30 rfl (lv_at hl 3 rfl) ?_
    obtain ⟨hg, hv⟩ := hv
    refine gk_callVi (As := [.int a2]) (rest := [.int r26]) (b := ad 15) ⟨hx, hb, hml, hown, hts⟩ (h_Tugs_pullOf _ s26 t26 a2 hg) (gk_cwV 1 hts t_w158 rfl rfl rfl (hts _ t_w155) (hts _ t_w156) (hts _ t_w157) (hts _ t_w37) (by decide +kernel) ⟨Nat.le_of_ble_eq_true rfl, Nat.le_of_ble_eq_true rfl⟩) hK hP hD hS (va_recv hK hP (ci := 4) (q0 := 15) rfl rfl) rfl hl.1 rfl (lv_room (Nat.le_of_ble_eq_true rfl)) d_Tugs_isBetter_31 ⟨Nat.zero_le _, Nat.zero_le _⟩ ?_
    intro r31 s31 t31 H locs hw hP hD hS
    replace hv := hv r31 s31 t31 hw
    refine lv_isub hx hb d_Tugs_isBetter_34 ?_
    refine lv_topi (fun y35 ey35 => ?_)
    replace hv := hv y35 ey35
    refine lv_istore (lv' := [(4, .int y35), (3, .int y9), (0, .ref (ad 15)), (1, .int a1), (2, .int a2)]) hx hb d_Tugs_isBetter_35 hl (by decide) rfl (fun ls hl => ?_)
    refine lv_iload hx hb d_Tugs_isBetter_37 (lv_at hl 0 rfl) ?_
    refine lv_if_eq (tgt := 53) hx hb d_Tugs_isBetter_39 (by decide) (fun hc => ?_) (fun hc => ?_)
    · replace hv := hv.1 hc
      refine lv_iload_n hx hb d_Tugs_isBetter_53 rfl (lv_at hl 3 rfl) ?_
      refine lv_iload_n hx hb d_Tugs_isBetter_54 rfl (lv_at hl 4 rfl) ?_
      refine lv_ixor hx hb d_Tugs_isBetter_55 ?_
      refine lv_topi (fun y56 ey56 => ?_)
      replace hv := hv y56 ey56
      refine lv_istore (lv' := [(5, .int y56), (4, .int y35), (3, .int y9), (0, .ref (ad 15)), (1, .int a1), (2, .int a2)]) hx hb d_Tugs_isBetter_56 hl (by decide) rfl (fun ls hl => ?_)
      refine lv_iload_n hx hb d_Tugs_isBetter_58 rfl (lv_at hl 4 rfl) ?_
      refine lv_iload hx hb d_Tugs_isBetter_59 (lv_at hl 0 rfl) ?_
      refine lv_iand hx hb d_Tugs_isBetter_61 ?_
      refine lv_iload hx hb d_Tugs_isBetter_62 (lv_at hl 0 rfl) ?_
      refine lv_ineg hx hb d_Tugs_isBetter_64 ?_
      refine lv_iand hx hb d_Tugs_isBetter_65 ?_
      refine lv_if_eq (tgt := 73) hx hb d_Tugs_isBetter_66 (by decide) (fun hc => ?_) (fun hc => ?_)
      · replace hv := hv.1 hc
        refine lv_iconst (v := 0) hx hb d_Tugs_isBetter_73 (by decide) ?_
        obtain ⟨hz, hv⟩ := hv
        exact gk_zret hx hb hr hlocks (gk_nz hz) hK hP hD hS hv d_Tugs_isBetter_74
      · replace hv := hv.2 hc
        refine lv_iconst (v := 1) hx hb d_Tugs_isBetter_69 (by decide) ?_
        refine lv_goto (tgt := 74) hx hb d_Tugs_isBetter_70 (by decide) ?_
        obtain ⟨hz, hv⟩ := hv
        exact gk_zret hx hb hr hlocks (gk_nz hz) hK hP hD hS hv d_Tugs_isBetter_74
    · replace hv := hv.2 hc
      refine lv_iload hx hb d_Tugs_isBetter_42 (lv_at hl 0 rfl) ?_
      refine lv_if_ge (tgt := 51) hx hb d_Tugs_isBetter_44 (by decide) (fun hc => ?_) (fun hc => ?_)
      · replace hv := hv.1 hc
        refine lv_iconst (v := 0) hx hb d_Tugs_isBetter_51 (by decide) ?_
        obtain ⟨hz, hv⟩ := hv
        exact gk_zret hx hb hr hlocks (gk_nz hz) hK hP hD hS hv d_Tugs_isBetter_52
      · replace hv := hv.2 hc
        refine lv_iconst (v := 1) hx hb d_Tugs_isBetter_47 (by decide) ?_
        refine lv_goto (tgt := 52) hx hb d_Tugs_isBetter_48 (by decide) ?_
        obtain ⟨hz, hv⟩ := hv
        exact gk_zret hx hb hr hlocks (gk_nz hz) hK hP hD hS hv d_Tugs_isBetter_52
  · replace hv := hv.2 hc
    refine lv_iload_n hx hb d_Tugs_isBetter_14 rfl (lv_at hl 0 rfl) ?_
    refine lv_if_ge (tgt := 22) hx hb d_Tugs_isBetter_15 (by decide) (fun hc => ?_) (fun hc => ?_)
    · replace hv := hv.1 hc
      refine lv_iconst (v := 0) hx hb d_Tugs_isBetter_22 (by decide) ?_
      obtain ⟨hz, hv⟩ := hv
      exact gk_zret hx hb hr hlocks (gk_nz hz) hK hP hD hS hv d_Tugs_isBetter_23
    · replace hv := hv.2 hc
      refine lv_iconst (v := 1) hx hb d_Tugs_isBetter_18 (by decide) ?_
      refine lv_goto (tgt := 23) hx hb d_Tugs_isBetter_19 (by decide) ?_
      obtain ⟨hz, hv⟩ := hv
      exact gk_zret hx hb hr hlocks (gk_nz hz) hK hP hD hS hv d_Tugs_isBetter_23
theorem d_Tugs_choose_0 : decode b_Tugs_choose 0 = .ok (.iconst 0, 1) := by decide +kernel
theorem d_Tugs_choose_1 : decode b_Tugs_choose 1 = .ok (.istore_n 3, 1) := by decide +kernel
theorem d_Tugs_choose_2 : decode b_Tugs_choose 2 = .ok (.iconst 1, 1) := by decide +kernel
theorem d_Tugs_choose_3 : decode b_Tugs_choose 3 = .ok (.istore 4, 2) := by decide +kernel
theorem d_Tugs_choose_5 : decode b_Tugs_choose 5 = .ok (.iload 4, 2) := by decide +kernel
theorem d_Tugs_choose_7 : decode b_Tugs_choose 7 = .ok (.iload_n 1, 1) := by decide +kernel
theorem d_Tugs_choose_8 : decode b_Tugs_choose 8 = .ok (.if_icmp .gt 45, 3) := by decide +kernel
theorem d_Tugs_choose_11 : decode b_Tugs_choose 11 = .ok (.iload 4, 2) := by decide +kernel
theorem d_Tugs_choose_13 : decode b_Tugs_choose 13 = .ok (.iload_n 1, 1) := by decide +kernel
theorem d_Tugs_choose_14 : decode b_Tugs_choose 14 = .ok (.iand, 1) := by decide +kernel
theorem d_Tugs_choose_15 : decode b_Tugs_choose 15 = .ok (.iload 4, 2) := by decide +kernel
theorem d_Tugs_choose_17 : decode b_Tugs_choose 17 = .ok (.if_icmp .ne 30, 3) := by decide +kernel
theorem d_Tugs_choose_20 : decode b_Tugs_choose 20 = .ok (.aload_n 0, 1) := by decide +kernel
theorem d_Tugs_choose_21 : decode b_Tugs_choose 21 = .ok (.iload 4, 2) := by decide +kernel
theorem d_Tugs_choose_23 : decode b_Tugs_choose 23 = .ok (.invokevirtual 49, 3) := by decide +kernel
theorem d_Tugs_choose_26 : decode b_Tugs_choose 26 = .ok (.iload_n 2, 1) := by decide +kernel
theorem d_Tugs_choose_27 : decode b_Tugs_choose 27 = .ok (.if_icmp .lt 20, 3) := by decide +kernel
theorem d_Tugs_choose_30 : decode b_Tugs_choose 30 = .ok (.iload_n 3, 1) := by decide +kernel
theorem d_Tugs_choose_31 : decode b_Tugs_choose 31 = .ok (.ifCond .eq 13, 3) := by decide +kernel
theorem d_Tugs_choose_34 : decode b_Tugs_choose 34 = .ok (.aload_n 0, 1) := by decide +kernel
theorem d_Tugs_choose_35 : decode b_Tugs_choose 35 = .ok (.iload 4, 2) := by decide +kernel
theorem d_Tugs_choose_37 : decode b_Tugs_choose 37 = .ok (.iload_n 3, 1) := by decide +kernel
theorem d_Tugs_choose_38 : decode b_Tugs_choose 38 = .ok (.invokevirtual 53, 3) := by decide +kernel
theorem d_Tugs_choose_41 : decode b_Tugs_choose 41 = .ok (.ifCond .eq 6, 3) := by decide +kernel
theorem d_Tugs_choose_44 : decode b_Tugs_choose 44 = .ok (.iload 4, 2) := by decide +kernel
theorem d_Tugs_choose_46 : decode b_Tugs_choose 46 = .ok (.istore_n 3, 1) := by decide +kernel
theorem d_Tugs_choose_47 : decode b_Tugs_choose 47 = .ok (.iinc 4 1, 3) := by decide +kernel
theorem d_Tugs_choose_50 : decode b_Tugs_choose 50 = .ok (.goto (-45), 3) := by decide +kernel
theorem d_Tugs_choose_53 : decode b_Tugs_choose 53 = .ok (.iload_n 3, 1) := by decide +kernel
theorem d_Tugs_choose_54 : decode b_Tugs_choose 54 = .ok (.ireturn, 1) := by decide +kernel
def s_Tugs_choose_0 (P_Tugs_pullOf : MI → ML → Int32 → Prop) (Q_Tugs_pullOf : MI → ML → Int32 → Int32 → MI → ML → Prop) (P_Tugs_isBetter : MI → ML → Int32 → Int32 → Prop) (Q_Tugs_isBetter : MI → ML → Int32 → Int32 → Int32 → MI → ML → Prop) (σ : MI) (τ : ML) (a1 : Int32) (a2 : Int32) (K5 : Int32 → Int32 → Int32 → Int32 → MI → ML → Prop) (R : Int32 → MI → ML → Prop) : Prop :=
  K5 a1 a2 0 1 σ τ
def s_Tugs_choose_5 (P_Tugs_pullOf : MI → ML → Int32 → Prop) (Q_Tugs_pullOf : MI → ML → Int32 → Int32 → MI → ML → Prop) (P_Tugs_isBetter : MI → ML → Int32 → Int32 → Prop) (Q_Tugs_isBetter : MI → ML → Int32 → Int32 → Int32 → MI → ML → Prop) (σ : MI) (τ : ML) (x1 : Int32) (x2 : Int32) (x3 : Int32) (x4 : Int32) (K5 : Int32 → Int32 → Int32 → Int32 → MI → ML → Prop) (R : Int32 → MI → ML → Prop) : Prop :=
  (x1 < x4 →
  (R x3 σ τ)) ∧
  (¬ x1 < x4 →
  ((¬ (x4 &&& x1) = x4 →
    (∀ y47 : Int32, y47 = x4 + 1 → (K5 x1 x2 x3 y47 σ τ))) ∧
    ((x4 &&& x1) = x4 →
    (P_Tugs_pullOf σ τ x4 ∧ ∀ (r23 : Int32) (s23 : MI) (t23 : ML), Q_Tugs_pullOf σ τ x4 r23 s23 t23 → ((r23 < x2 →
      (∀ y47 : Int32, y47 = x4 + 1 → (K5 x1 x2 x3 y47 s23 t23))) ∧
      (¬ r23 < x2 →
      ((x3 = 0 →
        (∀ y47 : Int32, y47 = x4 + 1 → (K5 x1 x2 x4 y47 s23 t23))) ∧
        (¬ x3 = 0 →
        (P_Tugs_isBetter s23 t23 x4 x3 ∧ ∀ (r38 : Int32) (s38 : MI) (t38 : ML), Q_Tugs_isBetter s23 t23 x4 x3 r38 s38 t38 → ((r38 = 0 →
          (∀ y47 : Int32, y47 = x4 + 1 → (K5 x1 x2 x3 y47 s38 t38))) ∧
          (¬ r38 = 0 →
          (∀ y47 : Int32, y47 = x4 + 1 → (K5 x1 x2 x4 y47 s38 t38)))))))))))))
set_option maxHeartbeats 4000000 in
set_option maxRecDepth 100000 in
theorem k_Tugs_choose (l : Launch) (D : va_G) (ad : Nat → Nat) (ci cl : ClassId)
    (pre : MI → ML → Int32 → Int32 → Prop) (post : MI → ML → Int32 → Int32 → Int32 → MI → ML → Prop) (P_Tugs_pullOf : MI → ML → Int32 → Prop) (Q_Tugs_pullOf : MI → ML → Int32 → Int32 → MI → ML → Prop) (P_Tugs_isBetter : MI → ML → Int32 → Int32 → Prop) (Q_Tugs_isBetter : MI → ML → Int32 → Int32 → Int32 → MI → ML → Prop)
    (h_Tugs_pullOf : ∀ (sz : Nat) (σ : MI) (τ : ML) (b0 : Int32), P_Tugs_pullOf σ τ b0 → gMi l D (xw ad ci cl) (xt ci cl) (xa ad) y_Tugs_pullOf w_Tugs_pullOf rm_Tugs_pullOf [.ref (ad 15), .int b0] sz σ τ (Q_Tugs_pullOf σ τ b0))
    (h_Tugs_isBetter : ∀ (sz : Nat) (σ : MI) (τ : ML) (b0 : Int32) (b1 : Int32), P_Tugs_isBetter σ τ b0 b1 → gMi l D (xw ad ci cl) (xt ci cl) (xa ad) y_Tugs_isBetter w_Tugs_isBetter rm_Tugs_isBetter [.ref (ad 15), .int b0, .int b1] sz σ τ (Q_Tugs_isBetter σ τ b0 b1))
    (I5 : MI → ML → Int32 → Int32 → Int32 → Int32 → Int32 → Int32 → MI → ML → Prop) (m5 : MI → ML → Int32 → Int32 → Int32 → Int32 → Int32 → Int32 → MI → ML → Nat)
    (v0 : ∀ (σ0 : MI) (τ0 : ML) (a1 : Int32) (a2 : Int32), pre σ0 τ0 a1 a2 → s_Tugs_choose_0 P_Tugs_pullOf Q_Tugs_pullOf P_Tugs_isBetter Q_Tugs_isBetter σ0 τ0 a1 a2 (fun z0 z1 z2 z3 σ9 τ9 => I5 σ0 τ0 a1 a2 z0 z1 z2 z3 σ9 τ9) (post σ0 τ0 a1 a2))
    (v5 : ∀ (σ0 : MI) (τ0 : ML) (a1 : Int32) (a2 : Int32) (x1 : Int32) (x2 : Int32) (x3 : Int32) (x4 : Int32) (σ : MI) (τ : ML), I5 σ0 τ0 a1 a2 x1 x2 x3 x4 σ τ → s_Tugs_choose_5 P_Tugs_pullOf Q_Tugs_pullOf P_Tugs_isBetter Q_Tugs_isBetter σ τ x1 x2 x3 x4 (fun z0 z1 z2 z3 σ9 τ9 => I5 σ0 τ0 a1 a2 z0 z1 z2 z3 σ9 τ9 ∧ m5 σ0 τ0 a1 a2 z0 z1 z2 z3 σ9 τ9 < m5 σ0 τ0 a1 a2 x1 x2 x3 x4 σ τ) (post σ0 τ0 a1 a2)) :
    ∀ (sz : Nat) (σ0 : MI) (τ0 : ML) (a1 : Int32) (a2 : Int32), pre σ0 τ0 a1 a2 → gMi l D (xw ad ci cl) (xt ci cl) (xa ad) y_Tugs_choose w_Tugs_choose rm_Tugs_choose [.ref (ad 15), .int a1, .int a2] sz σ0 τ0 (post σ0 τ0 a1 a2) := by
  intro sz σ0 τ0 a1 a2 hpre
  refine gk_ofWi (cc := b_Tugs_choose) (maxL := 5) (ret := (some .int)) (by decide) rfl xa_ok (Nat.le_of_ble_eq_true rfl) ?_
  intro p e s m below meth c ls hx hb hr hlocks hml hown hts hK hP hD hS hl
  have hl : lv_has ls 5 [(0, .ref (ad 15)), (1, .int a1), (2, .int a2)] := hl
  have hown : s.vm.findClass R_Tugs = some m.cls := hown
  have hL : ∀ n : Nat, (∀ (x1 : Int32) (x2 : Int32) (x3 : Int32) (x4 : Int32) (σ : MI) (τ : ML) (H : Heap) (locs : List Loc) (ls : Array Slot), m5 σ0 τ0 a1 a2 x1 x2 x3 x4 σ τ < n → I5 σ0 τ0 a1 a2 x1 x2 x3 x4 σ τ → va_P D classes ((xw ad ci cl) σ τ) H → va_D (gA (xa ad) s.heap.size) ((xw ad ci cl) σ τ) → va_S (gA (xa ad) s.heap.size) s.heap H locs → lv_has ls 5 [(0, .ref (ad 15)), (1, .int x1), (2, .int x2), (3, .int x3), (4, .int x4)] → W p l e rm_Tugs_choose s m [.ref (ad 15), .int a1, .int a2].toArray below meth c H locs 0 0 (gQi D (xw ad ci cl) (xt ci cl) (xa ad) below [.ref (ad 15), .int a1, .int a2] s (post σ0 τ0 a1 a2)) (F0 m 5 ls [])) := by
    intro n
    induction n with
    | zero => exact fun _ _ _ _ _ _ _ _ _ hn => absurd hn (Nat.not_lt_zero _)
    | succ n ih =>
      · intro x1 x2 x3 x4 σ τ H locs ls hn hI hP hD hS hl
        have hv := v5 σ0 τ0 a1 a2 x1 x2 x3 x4 σ τ hI
        unfold s_Tugs_choose_5 at hv
        refine lv_iload hx hb d_Tugs_choose_5 (lv_at hl 4 rfl) ?_
        refine lv_iload_n hx hb d_Tugs_choose_7 rfl (lv_at hl 1 rfl) ?_
        refine lv_icmp_gt (tgt := 53) hx hb d_Tugs_choose_8 (by decide) (fun hc => ?_) (fun hc => ?_)
        · replace hv := hv.1 hc
          refine lv_iload_n hx hb d_Tugs_choose_53 rfl (lv_at hl 3 rfl) ?_
          exact gk_iret hx hb hr hlocks hK hP hD hS hv d_Tugs_choose_54
        · replace hv := hv.2 hc
          refine lv_iload hx hb d_Tugs_choose_11 (lv_at hl 4 rfl) ?_
          refine lv_iload_n hx hb d_Tugs_choose_13 rfl (lv_at hl 1 rfl) ?_
          refine lv_iand hx hb d_Tugs_choose_14 ?_
          refine lv_iload hx hb d_Tugs_choose_15 (lv_at hl 4 rfl) ?_
          refine lv_icmp_ne (tgt := 47) hx hb d_Tugs_choose_17 (by decide) (fun hc => ?_) (fun hc => ?_)
          · replace hv := hv.1 hc
            obtain ⟨y47, ey47⟩ : ∃ z : Int32, z = x4 + 1 := ⟨_, rfl⟩
            replace hv := hv y47 ey47
            refine lv_iinc (v := y47) (lv' := [(4, .int y47), (0, .ref (ad 15)), (1, .int x1), (2, .int x2), (3, .int x3)]) hx hb d_Tugs_choose_47 hl (k := 4) rfl (by rw [ey47]; rfl) (by decide) rfl (fun ls hl => ?_)
            refine lv_goto (tgt := 5) hx hb d_Tugs_choose_50 (by decide) ?_
            obtain ⟨hI, hm⟩ := hv
            exact ih x1 x2 x3 y47 σ τ _ _ _ (Nat.lt_of_lt_of_le hm (Nat.le_of_lt_succ hn)) hI hP hD hS (lv_sub hl [1, 2, 3, 4, 0] rfl)
          · replace hv := hv.2 hc
            refine lv_aload_n hx hb d_Tugs_choose_20 rfl (lv_at hl 0 rfl) ?_
            refine lv_iload hx hb d_Tugs_choose_21 (lv_at hl 4 rfl) ?_
            obtain ⟨hg, hv⟩ := hv
            refine gk_callVi (As := [.int x4]) (rest := []) (b := ad 15) ⟨hx, hb, hml, hown, hts⟩ (h_Tugs_pullOf _ σ τ x4 hg) (gk_cwV 1 hts t_w158 rfl rfl rfl (hts _ t_w155) (hts _ t_w156) (hts _ t_w157) (hts _ t_w37) (by decide +kernel) ⟨Nat.le_of_ble_eq_true rfl, Nat.le_of_ble_eq_true rfl⟩) hK hP hD hS (va_recv hK hP (ci := 4) (q0 := 15) rfl rfl) rfl hl.1 rfl (lv_room (Nat.le_of_ble_eq_true rfl)) d_Tugs_choose_23 ⟨Nat.zero_le _, Nat.zero_le _⟩ ?_
            intro r23 s23 t23 H locs hw hP hD hS
            replace hv := hv r23 s23 t23 hw
            refine lv_iload_n hx hb d_Tugs_choose_26 rfl (lv_at hl 2 rfl) ?_
            refine lv_icmp_lt (tgt := 47) hx hb d_Tugs_choose_27 (by decide) (fun hc => ?_) (fun hc => ?_)
            · replace hv := hv.1 hc
              obtain ⟨y47, ey47⟩ : ∃ z : Int32, z = x4 + 1 := ⟨_, rfl⟩
              replace hv := hv y47 ey47
              refine lv_iinc (v := y47) (lv' := [(4, .int y47), (0, .ref (ad 15)), (1, .int x1), (2, .int x2), (3, .int x3)]) hx hb d_Tugs_choose_47 hl (k := 4) rfl (by rw [ey47]; rfl) (by decide) rfl (fun ls hl => ?_)
              refine lv_goto (tgt := 5) hx hb d_Tugs_choose_50 (by decide) ?_
              obtain ⟨hI, hm⟩ := hv
              exact ih x1 x2 x3 y47 s23 t23 _ _ _ (Nat.lt_of_lt_of_le hm (Nat.le_of_lt_succ hn)) hI hP hD hS (lv_sub hl [1, 2, 3, 4, 0] rfl)
            · replace hv := hv.2 hc
              refine lv_iload_n hx hb d_Tugs_choose_30 rfl (lv_at hl 3 rfl) ?_
              refine lv_if_eq (tgt := 44) hx hb d_Tugs_choose_31 (by decide) (fun hc => ?_) (fun hc => ?_)
              · replace hv := hv.1 hc
                refine lv_iload hx hb d_Tugs_choose_44 (lv_at hl 4 rfl) ?_
                refine lv_istore_n (lv' := [(3, .int x4), (0, .ref (ad 15)), (1, .int x1), (2, .int x2), (4, .int x4)]) hx hb d_Tugs_choose_46 rfl hl (by decide) rfl (fun ls hl => ?_)
                obtain ⟨y47, ey47⟩ : ∃ z : Int32, z = x4 + 1 := ⟨_, rfl⟩
                replace hv := hv y47 ey47
                refine lv_iinc (v := y47) (lv' := [(4, .int y47), (3, .int x4), (0, .ref (ad 15)), (1, .int x1), (2, .int x2)]) hx hb d_Tugs_choose_47 hl (k := 4) rfl (by rw [ey47]; rfl) (by decide) rfl (fun ls hl => ?_)
                refine lv_goto (tgt := 5) hx hb d_Tugs_choose_50 (by decide) ?_
                obtain ⟨hI, hm⟩ := hv
                exact ih x1 x2 x4 y47 s23 t23 _ _ _ (Nat.lt_of_lt_of_le hm (Nat.le_of_lt_succ hn)) hI hP hD hS (lv_sub hl [2, 3, 4, 1, 0] rfl)
              · replace hv := hv.2 hc
                refine lv_aload_n hx hb d_Tugs_choose_34 rfl (lv_at hl 0 rfl) ?_
                refine lv_iload hx hb d_Tugs_choose_35 (lv_at hl 4 rfl) ?_
                refine lv_iload_n hx hb d_Tugs_choose_37 rfl (lv_at hl 3 rfl) ?_
                obtain ⟨hg, hv⟩ := hv
                refine gk_callVi (As := [.int x4, .int x3]) (rest := []) (b := ad 15) ⟨hx, hb, hml, hown, hts⟩ (h_Tugs_isBetter _ s23 t23 x4 x3 hg) (gk_cwV 2 hts t_w162 rfl rfl rfl (hts _ t_w159) (hts _ t_w160) (hts _ t_w161) (hts _ t_w37) (by decide +kernel) ⟨Nat.le_of_ble_eq_true rfl, Nat.le_of_ble_eq_true rfl⟩) hK hP hD hS (va_recv hK hP (ci := 4) (q0 := 15) rfl rfl) rfl hl.1 rfl (lv_room (Nat.le_of_ble_eq_true rfl)) d_Tugs_choose_38 ⟨Nat.zero_le _, Nat.zero_le _⟩ ?_
                intro r38 s38 t38 H locs hw hP hD hS
                replace hv := hv r38 s38 t38 hw
                refine lv_if_eq (tgt := 47) hx hb d_Tugs_choose_41 (by decide) (fun hc => ?_) (fun hc => ?_)
                · replace hv := hv.1 hc
                  obtain ⟨y47, ey47⟩ : ∃ z : Int32, z = x4 + 1 := ⟨_, rfl⟩
                  replace hv := hv y47 ey47
                  refine lv_iinc (v := y47) (lv' := [(4, .int y47), (0, .ref (ad 15)), (1, .int x1), (2, .int x2), (3, .int x3)]) hx hb d_Tugs_choose_47 hl (k := 4) rfl (by rw [ey47]; rfl) (by decide) rfl (fun ls hl => ?_)
                  refine lv_goto (tgt := 5) hx hb d_Tugs_choose_50 (by decide) ?_
                  obtain ⟨hI, hm⟩ := hv
                  exact ih x1 x2 x3 y47 s38 t38 _ _ _ (Nat.lt_of_lt_of_le hm (Nat.le_of_lt_succ hn)) hI hP hD hS (lv_sub hl [1, 2, 3, 4, 0] rfl)
                · replace hv := hv.2 hc
                  refine lv_iload hx hb d_Tugs_choose_44 (lv_at hl 4 rfl) ?_
                  refine lv_istore_n (lv' := [(3, .int x4), (0, .ref (ad 15)), (1, .int x1), (2, .int x2), (4, .int x4)]) hx hb d_Tugs_choose_46 rfl hl (by decide) rfl (fun ls hl => ?_)
                  obtain ⟨y47, ey47⟩ : ∃ z : Int32, z = x4 + 1 := ⟨_, rfl⟩
                  replace hv := hv y47 ey47
                  refine lv_iinc (v := y47) (lv' := [(4, .int y47), (3, .int x4), (0, .ref (ad 15)), (1, .int x1), (2, .int x2)]) hx hb d_Tugs_choose_47 hl (k := 4) rfl (by rw [ey47]; rfl) (by decide) rfl (fun ls hl => ?_)
                  refine lv_goto (tgt := 5) hx hb d_Tugs_choose_50 (by decide) ?_
                  obtain ⟨hI, hm⟩ := hv
                  exact ih x1 x2 x4 y47 s38 t38 _ _ _ (Nat.lt_of_lt_of_le hm (Nat.le_of_lt_succ hn)) hI hP hD hS (lv_sub hl [2, 3, 4, 1, 0] rfl)
  have hv := v0 σ0 τ0 a1 a2 hpre
  unfold s_Tugs_choose_0 at hv
  refine lv_iconst (v := 0) hx hb d_Tugs_choose_0 (by decide) ?_
  refine lv_istore_n (lv' := [(3, .int 0), (0, .ref (ad 15)), (1, .int a1), (2, .int a2)]) hx hb d_Tugs_choose_1 rfl hl (by decide) rfl (fun ls hl => ?_)
  refine lv_iconst (v := 1) hx hb d_Tugs_choose_2 (by decide) ?_
  refine lv_istore (lv' := [(4, .int 1), (3, .int 0), (0, .ref (ad 15)), (1, .int a1), (2, .int a2)]) hx hb d_Tugs_choose_3 hl (by decide) rfl (fun ls hl => ?_)
  exact (hL _) a1 a2 0 1 σ0 τ0 _ _ _ (Nat.lt_succ_self _) hv hP hD hS (lv_sub hl [2, 3, 4, 1, 0] rfl)
theorem d_Tugs_serve_0 : decode b_Tugs_serve 0 = .ok (.iconst 0, 1) := by decide +kernel
theorem d_Tugs_serve_1 : decode b_Tugs_serve 1 = .ok (.istore_n 3, 1) := by decide +kernel
theorem d_Tugs_serve_2 : decode b_Tugs_serve 2 = .ok (.iload_n 3, 1) := by decide +kernel
theorem d_Tugs_serve_3 : decode b_Tugs_serve 3 = .ok (.aload_n 1, 1) := by decide +kernel
theorem d_Tugs_serve_4 : decode b_Tugs_serve 4 = .ok (.getfield 19, 3) := by decide +kernel
theorem d_Tugs_serve_7 : decode b_Tugs_serve 7 = .ok (.if_icmp .ge 23, 3) := by decide +kernel
theorem d_Tugs_serve_10 : decode b_Tugs_serve 10 = .ok (.aload_n 2, 1) := by decide +kernel
theorem d_Tugs_serve_11 : decode b_Tugs_serve 11 = .ok (.getfield 22, 3) := by decide +kernel
theorem d_Tugs_serve_14 : decode b_Tugs_serve 14 = .ok (.iload_n 3, 1) := by decide +kernel
theorem d_Tugs_serve_15 : decode b_Tugs_serve 15 = .ok (.iconst 0, 1) := by decide +kernel
theorem d_Tugs_serve_16 : decode b_Tugs_serve 16 = .ok (.iastore, 1) := by decide +kernel
theorem d_Tugs_serve_17 : decode b_Tugs_serve 17 = .ok (.aload_n 2, 1) := by decide +kernel
theorem d_Tugs_serve_18 : decode b_Tugs_serve 18 = .ok (.getfield 27, 3) := by decide +kernel
theorem d_Tugs_serve_21 : decode b_Tugs_serve 21 = .ok (.iload_n 3, 1) := by decide +kernel
theorem d_Tugs_serve_22 : decode b_Tugs_serve 22 = .ok (.iconst 0, 1) := by decide +kernel
theorem d_Tugs_serve_23 : decode b_Tugs_serve 23 = .ok (.iastore, 1) := by decide +kernel
theorem d_Tugs_serve_24 : decode b_Tugs_serve 24 = .ok (.iinc 3 1, 3) := by decide +kernel
theorem d_Tugs_serve_27 : decode b_Tugs_serve 27 = .ok (.goto (-25), 3) := by decide +kernel
theorem d_Tugs_serve_30 : decode b_Tugs_serve 30 = .ok (.iconst 0, 1) := by decide +kernel
theorem d_Tugs_serve_31 : decode b_Tugs_serve 31 = .ok (.istore_n 3, 1) := by decide +kernel
theorem d_Tugs_serve_32 : decode b_Tugs_serve 32 = .ok (.iload_n 3, 1) := by decide +kernel
theorem d_Tugs_serve_33 : decode b_Tugs_serve 33 = .ok (.aload_n 1, 1) := by decide +kernel
theorem d_Tugs_serve_34 : decode b_Tugs_serve 34 = .ok (.getfield 19, 3) := by decide +kernel
theorem d_Tugs_serve_37 : decode b_Tugs_serve 37 = .ok (.if_icmp .ge 85, 3) := by decide +kernel
theorem d_Tugs_serve_40 : decode b_Tugs_serve 40 = .ok (.aload_n 1, 1) := by decide +kernel
theorem d_Tugs_serve_41 : decode b_Tugs_serve 41 = .ok (.getfield 30, 3) := by decide +kernel
theorem d_Tugs_serve_44 : decode b_Tugs_serve 44 = .ok (.iload_n 3, 1) := by decide +kernel
theorem d_Tugs_serve_45 : decode b_Tugs_serve 45 = .ok (.iaload, 1) := by decide +kernel
theorem d_Tugs_serve_46 : decode b_Tugs_serve 46 = .ok (.istore 4, 2) := by decide +kernel
theorem d_Tugs_serve_48 : decode b_Tugs_serve 48 = .ok (.aload_n 2, 1) := by decide +kernel
theorem d_Tugs_serve_49 : decode b_Tugs_serve 49 = .ok (.getfield 33, 3) := by decide +kernel
theorem d_Tugs_serve_52 : decode b_Tugs_serve 52 = .ok (.iload 4, 2) := by decide +kernel
theorem d_Tugs_serve_54 : decode b_Tugs_serve 54 = .ok (.iaload, 1) := by decide +kernel
theorem d_Tugs_serve_55 : decode b_Tugs_serve 55 = .ok (.iconst (-1), 1) := by decide +kernel
theorem d_Tugs_serve_56 : decode b_Tugs_serve 56 = .ok (.if_icmp .eq 60, 3) := by decide +kernel
theorem d_Tugs_serve_59 : decode b_Tugs_serve 59 = .ok (.aload_n 1, 1) := by decide +kernel
theorem d_Tugs_serve_60 : decode b_Tugs_serve 60 = .ok (.getfield 36, 3) := by decide +kernel
theorem d_Tugs_serve_63 : decode b_Tugs_serve 63 = .ok (.iload 4, 2) := by decide +kernel
theorem d_Tugs_serve_65 : decode b_Tugs_serve 65 = .ok (.iaload, 1) := by decide +kernel
theorem d_Tugs_serve_66 : decode b_Tugs_serve 66 = .ok (.ifCond .le 50, 3) := by decide +kernel
theorem d_Tugs_serve_69 : decode b_Tugs_serve 69 = .ok (.aload_n 0, 1) := by decide +kernel
theorem d_Tugs_serve_70 : decode b_Tugs_serve 70 = .ok (.aload_n 0, 1) := by decide +kernel
theorem d_Tugs_serve_71 : decode b_Tugs_serve 71 = .ok (.iload 4, 2) := by decide +kernel
theorem d_Tugs_serve_73 : decode b_Tugs_serve 73 = .ok (.aload_n 1, 1) := by decide +kernel
theorem d_Tugs_serve_74 : decode b_Tugs_serve 74 = .ok (.aload_n 2, 1) := by decide +kernel
theorem d_Tugs_serve_75 : decode b_Tugs_serve 75 = .ok (.invokevirtual 37, 3) := by decide +kernel
theorem d_Tugs_serve_78 : decode b_Tugs_serve 78 = .ok (.aload_n 1, 1) := by decide +kernel
theorem d_Tugs_serve_79 : decode b_Tugs_serve 79 = .ok (.getfield 36, 3) := by decide +kernel
theorem d_Tugs_serve_82 : decode b_Tugs_serve 82 = .ok (.iload 4, 2) := by decide +kernel
theorem d_Tugs_serve_84 : decode b_Tugs_serve 84 = .ok (.iaload, 1) := by decide +kernel
theorem d_Tugs_serve_85 : decode b_Tugs_serve 85 = .ok (.invokevirtual 41, 3) := by decide +kernel
theorem d_Tugs_serve_88 : decode b_Tugs_serve 88 = .ok (.istore 5, 2) := by decide +kernel
theorem d_Tugs_serve_90 : decode b_Tugs_serve 90 = .ok (.aload_n 2, 1) := by decide +kernel
theorem d_Tugs_serve_91 : decode b_Tugs_serve 91 = .ok (.getfield 22, 3) := by decide +kernel
theorem d_Tugs_serve_94 : decode b_Tugs_serve 94 = .ok (.iload 4, 2) := by decide +kernel
theorem d_Tugs_serve_96 : decode b_Tugs_serve 96 = .ok (.iload 5, 2) := by decide +kernel
theorem d_Tugs_serve_98 : decode b_Tugs_serve 98 = .ok (.iastore, 1) := by decide +kernel
theorem d_Tugs_serve_99 : decode b_Tugs_serve 99 = .ok (.aload_n 2, 1) := by decide +kernel
theorem d_Tugs_serve_100 : decode b_Tugs_serve 100 = .ok (.getfield 27, 3) := by decide +kernel
theorem d_Tugs_serve_103 : decode b_Tugs_serve 103 = .ok (.iload 4, 2) := by decide +kernel
theorem d_Tugs_serve_105 : decode b_Tugs_serve 105 = .ok (.iload 5, 2) := by decide +kernel
theorem d_Tugs_serve_107 : decode b_Tugs_serve 107 = .ok (.ifCond .ne 7, 3) := by decide +kernel
theorem d_Tugs_serve_110 : decode b_Tugs_serve 110 = .ok (.iconst 1, 1) := by decide +kernel
theorem d_Tugs_serve_111 : decode b_Tugs_serve 111 = .ok (.goto 4, 3) := by decide +kernel
theorem d_Tugs_serve_114 : decode b_Tugs_serve 114 = .ok (.iconst 0, 1) := by decide +kernel
theorem d_Tugs_serve_115 : decode b_Tugs_serve 115 = .ok (.iastore, 1) := by decide +kernel
theorem d_Tugs_serve_116 : decode b_Tugs_serve 116 = .ok (.iinc 3 1, 3) := by decide +kernel
theorem d_Tugs_serve_119 : decode b_Tugs_serve 119 = .ok (.goto (-87), 3) := by decide +kernel
theorem d_Tugs_serve_122 : decode b_Tugs_serve 122 = .ok (.return_, 1) := by decide +kernel
def s_Tugs_serve_0 (P_Tugs_freeFor : MI → ML → Int32 → Prop) (Q_Tugs_freeFor : MI → ML → Int32 → Int32 → MI → ML → Prop) (P_Tugs_choose : MI → ML → Int32 → Int32 → Prop) (Q_Tugs_choose : MI → ML → Int32 → Int32 → Int32 → MI → ML → Prop) (σ : MI) (τ : ML) (K2 : Int32 → MI → ML → Prop) (K32 : Int32 → MI → ML → Prop) (R : MI → ML → Prop) : Prop :=
  K2 0 σ τ
def s_Tugs_serve_2 (P_Tugs_freeFor : MI → ML → Int32 → Prop) (Q_Tugs_freeFor : MI → ML → Int32 → Int32 → MI → ML → Prop) (P_Tugs_choose : MI → ML → Int32 → Int32 → Prop) (Q_Tugs_choose : MI → ML → Int32 → Int32 → Int32 → MI → ML → Prop) (σ : MI) (τ : ML) (x3 : Int32) (K2 : Int32 → MI → ML → Prop) (K32 : Int32 → MI → ML → Prop) (R : MI → ML → Prop) : Prop :=
  ((σ 8 0) ≤ x3 →
  (K32 0 σ τ)) ∧
  (¬ (σ 8 0) ≤ x3 →
  (vp_in x3 7 ∧ (∀ s16 : MI, s16 = st2 σ 25 (Int32.toNatClampNeg x3) 0 → (vp_in x3 7 ∧ (∀ s23 : MI, s23 = st2 s16 26 (Int32.toNatClampNeg x3) 0 → (∀ y24 : Int32, y24 = x3 + 1 → (K2 y24 s23 τ)))))))
def s_Tugs_serve_32 (P_Tugs_freeFor : MI → ML → Int32 → Prop) (Q_Tugs_freeFor : MI → ML → Int32 → Int32 → MI → ML → Prop) (P_Tugs_choose : MI → ML → Int32 → Int32 → Prop) (Q_Tugs_choose : MI → ML → Int32 → Int32 → Int32 → MI → ML → Prop) (σ : MI) (τ : ML) (x3 : Int32) (K2 : Int32 → MI → ML → Prop) (K32 : Int32 → MI → ML → Prop) (R : MI → ML → Prop) : Prop :=
  ((σ 8 0) ≤ x3 →
  (R σ τ)) ∧
  (¬ (σ 8 0) ≤ x3 →
  (vp_in x3 7 ∧ (∀ y46 : Int32, y46 = σ 14 (Int32.toNatClampNeg x3) → (vp_in y46 7 ∧ (((σ 23 (Int32.toNatClampNeg y46)) = ((-1)) →
    (∀ y116 : Int32, y116 = x3 + 1 → (K32 y116 σ τ))) ∧
    (¬ (σ 23 (Int32.toNatClampNeg y46)) = ((-1)) →
    (vp_in y46 7 ∧ (((σ 10 (Int32.toNatClampNeg y46)) ≤ 0 →
      (∀ y116 : Int32, y116 = x3 + 1 → (K32 y116 σ τ))) ∧
      (¬ (σ 10 (Int32.toNatClampNeg y46)) ≤ 0 →
      (P_Tugs_freeFor σ τ y46 ∧ ∀ (r75 : Int32) (s75 : MI) (t75 : ML), Q_Tugs_freeFor σ τ y46 r75 s75 t75 → (vp_in y46 7 ∧ (P_Tugs_choose s75 t75 r75 (s75 10 (Int32.toNatClampNeg y46)) ∧ ∀ (r85 : Int32) (s85 : MI) (t85 : ML), Q_Tugs_choose s75 t75 r75 (s75 10 (Int32.toNatClampNeg y46)) r85 s85 t85 → (vp_in y46 7 ∧ (∀ s98 : MI, s98 = st2 s85 25 (Int32.toNatClampNeg y46) r85 → ((¬ r85 = 0 →
        (vp_in y46 7 ∧ (∀ s115 : MI, s115 = st2 s98 26 (Int32.toNatClampNeg y46) 0 → (∀ y116 : Int32, y116 = x3 + 1 → (K32 y116 s115 t85))))) ∧
        (r85 = 0 →
        (vp_in y46 7 ∧ (∀ s115 : MI, s115 = st2 s98 26 (Int32.toNatClampNeg y46) 1 → (∀ y116 : Int32, y116 = x3 + 1 → (K32 y116 s115 t85))))))))))))))))))))
set_option maxHeartbeats 4000000 in
set_option maxRecDepth 100000 in
theorem k_Tugs_serve (l : Launch) (D : va_G) (ad : Nat → Nat) (ci cl : ClassId)
    (pre : MI → ML → Prop) (post : MI → ML → MI → ML → Prop) (P_Tugs_freeFor : MI → ML → Int32 → Prop) (Q_Tugs_freeFor : MI → ML → Int32 → Int32 → MI → ML → Prop) (P_Tugs_choose : MI → ML → Int32 → Int32 → Prop) (Q_Tugs_choose : MI → ML → Int32 → Int32 → Int32 → MI → ML → Prop)
    (h_Tugs_freeFor : ∀ (sz : Nat) (σ : MI) (τ : ML) (b0 : Int32), P_Tugs_freeFor σ τ b0 → gMi l D (xw ad ci cl) (xt ci cl) (xa ad) y_Tugs_freeFor w_Tugs_freeFor rm_Tugs_freeFor [.ref (ad 15), .int b0, .ref (ad 8), .ref (ad 22)] sz σ τ (Q_Tugs_freeFor σ τ b0))
    (h_Tugs_choose : ∀ (sz : Nat) (σ : MI) (τ : ML) (b0 : Int32) (b1 : Int32), P_Tugs_choose σ τ b0 b1 → gMi l D (xw ad ci cl) (xt ci cl) (xa ad) y_Tugs_choose w_Tugs_choose rm_Tugs_choose [.ref (ad 15), .int b0, .int b1] sz σ τ (Q_Tugs_choose σ τ b0 b1))
    (I2 : MI → ML → Int32 → MI → ML → Prop) (m2 : MI → ML → Int32 → MI → ML → Nat)
    (I32 : MI → ML → Int32 → MI → ML → Prop) (m32 : MI → ML → Int32 → MI → ML → Nat)
    (v0 : ∀ (σ0 : MI) (τ0 : ML), pre σ0 τ0 → s_Tugs_serve_0 P_Tugs_freeFor Q_Tugs_freeFor P_Tugs_choose Q_Tugs_choose σ0 τ0 (fun z0 σ9 τ9 => I2 σ0 τ0 z0 σ9 τ9) (fun z0 σ9 τ9 => I32 σ0 τ0 z0 σ9 τ9) (post σ0 τ0))
    (v2 : ∀ (σ0 : MI) (τ0 : ML) (x3 : Int32) (σ : MI) (τ : ML), I2 σ0 τ0 x3 σ τ → s_Tugs_serve_2 P_Tugs_freeFor Q_Tugs_freeFor P_Tugs_choose Q_Tugs_choose σ τ x3 (fun z0 σ9 τ9 => I2 σ0 τ0 z0 σ9 τ9 ∧ m2 σ0 τ0 z0 σ9 τ9 < m2 σ0 τ0 x3 σ τ) (fun z0 σ9 τ9 => I32 σ0 τ0 z0 σ9 τ9 ∧ m32 σ0 τ0 z0 σ9 τ9 < m2 σ0 τ0 x3 σ τ) (post σ0 τ0))
    (v32 : ∀ (σ0 : MI) (τ0 : ML) (x3 : Int32) (σ : MI) (τ : ML), I32 σ0 τ0 x3 σ τ → s_Tugs_serve_32 P_Tugs_freeFor Q_Tugs_freeFor P_Tugs_choose Q_Tugs_choose σ τ x3 (fun z0 σ9 τ9 => I2 σ0 τ0 z0 σ9 τ9 ∧ m2 σ0 τ0 z0 σ9 τ9 < m32 σ0 τ0 x3 σ τ) (fun z0 σ9 τ9 => I32 σ0 τ0 z0 σ9 τ9 ∧ m32 σ0 τ0 z0 σ9 τ9 < m32 σ0 τ0 x3 σ τ) (post σ0 τ0)) :
    ∀ (sz : Nat) (σ0 : MI) (τ0 : ML), pre σ0 τ0 → gMv l D (xw ad ci cl) (xt ci cl) (xa ad) y_Tugs_serve w_Tugs_serve rm_Tugs_serve [.ref (ad 15), .ref (ad 8), .ref (ad 22)] sz σ0 τ0 (post σ0 τ0) := by
  intro sz σ0 τ0 hpre
  refine gk_ofWv (cc := b_Tugs_serve) (maxL := 6) (ret := none) (by decide) rfl xa_ok (Nat.le_of_ble_eq_true rfl) ?_
  intro p e s m below meth c ls hx hb hr hlocks hml hown hts hK hP hD hS hl
  have hl : lv_has ls 6 [(0, .ref (ad 15)), (1, .ref (ad 8)), (2, .ref (ad 22))] := hl
  have hown : s.vm.findClass R_Tugs = some m.cls := hown
  have hL : ∀ n : Nat, (∀ (x3 : Int32) (σ : MI) (τ : ML) (H : Heap) (locs : List Loc) (ls : Array Slot), m2 σ0 τ0 x3 σ τ < n → I2 σ0 τ0 x3 σ τ → va_P D classes ((xw ad ci cl) σ τ) H → va_D (gA (xa ad) s.heap.size) ((xw ad ci cl) σ τ) → va_S (gA (xa ad) s.heap.size) s.heap H locs → lv_has ls 6 [(0, .ref (ad 15)), (1, .ref (ad 8)), (2, .ref (ad 22)), (3, .int x3)] → W p l e rm_Tugs_serve s m [.ref (ad 15), .ref (ad 8), .ref (ad 22)].toArray below meth c H locs 0 0 (gQv D (xw ad ci cl) (xt ci cl) (xa ad) below [.ref (ad 15), .ref (ad 8), .ref (ad 22)] s (post σ0 τ0)) (F0 m 2 ls [])) ∧
      (∀ (x3 : Int32) (σ : MI) (τ : ML) (H : Heap) (locs : List Loc) (ls : Array Slot), m32 σ0 τ0 x3 σ τ < n → I32 σ0 τ0 x3 σ τ → va_P D classes ((xw ad ci cl) σ τ) H → va_D (gA (xa ad) s.heap.size) ((xw ad ci cl) σ τ) → va_S (gA (xa ad) s.heap.size) s.heap H locs → lv_has ls 6 [(0, .ref (ad 15)), (1, .ref (ad 8)), (2, .ref (ad 22)), (3, .int x3)] → W p l e rm_Tugs_serve s m [.ref (ad 15), .ref (ad 8), .ref (ad 22)].toArray below meth c H locs 0 0 (gQv D (xw ad ci cl) (xt ci cl) (xa ad) below [.ref (ad 15), .ref (ad 8), .ref (ad 22)] s (post σ0 τ0)) (F0 m 32 ls [])) := by
    intro n
    induction n with
    | zero => exact ⟨fun _ _ _ _ _ _ hn => absurd hn (Nat.not_lt_zero _), fun _ _ _ _ _ _ hn => absurd hn (Nat.not_lt_zero _)⟩
    | succ n ih =>
      refine ⟨?_, ?_⟩
      · intro x3 σ τ H locs ls hn hI hP hD hS hl
        have hv := v2 σ0 τ0 x3 σ τ hI
        unfold s_Tugs_serve_2 at hv
        refine lv_iload_n hx hb d_Tugs_serve_2 rfl (lv_at hl 3 rfl) ?_
        refine lv_aload_n hx hb d_Tugs_serve_3 rfl (lv_at hl 1 rfl) ?_
        refine va_get (D := D) (ci := 0) (v := .int (σ 8 0)) (C := R_Jobs) (T := F_Jobs) (N := 7) hx hb hts iw_Jobs hown hK hP 8 rfl rfl 0 (by decide) (hts _ t_w148) (fun _ h9 => h9) rfl d_Tugs_serve_4 ?_
        refine lv_icmp_ge (tgt := 30) hx hb d_Tugs_serve_7 (by decide) (fun hc => ?_) (fun hc => ?_)
        · replace hv := hv.1 hc
          refine lv_iconst (v := 0) hx hb d_Tugs_serve_30 (by decide) ?_
          refine lv_istore_n (lv' := [(3, .int 0), (0, .ref (ad 15)), (1, .ref (ad 8)), (2, .ref (ad 22))]) hx hb d_Tugs_serve_31 rfl hl (by decide) rfl (fun ls hl => ?_)
          obtain ⟨hI, hm⟩ := hv
          exact ih.2 0 σ τ _ _ _ (Nat.lt_of_lt_of_le hm (Nat.le_of_lt_succ hn)) hI hP hD hS (lv_sub hl [1, 2, 3, 0] rfl)
        · replace hv := hv.2 hc
          refine lv_aload_n hx hb d_Tugs_serve_10 rfl (lv_at hl 2 rfl) ?_
          refine va_get (D := D) (ci := 2) (v := .ref (ad 25)) (C := R_Plan) (T := F_Plan) (N := 9) hx hb hts iw_Plan hown hK hP 22 rfl rfl 6 (by decide) (hts _ t_w153) (fun _ h9 => h9) rfl d_Tugs_serve_11 ?_
          refine lv_iload_n hx hb d_Tugs_serve_14 rfl (lv_at hl 3 rfl) ?_
          refine lv_iconst (v := 0) hx hb d_Tugs_serve_15 (by decide) ?_
          obtain ⟨hi, hv⟩ := hv
          refine va_iast hx hb hK hP hD hS 25 0 rfl rfl hi d_Tugs_serve_16 (fun H locs hP hD hS => ?_)
          rw [xa_25] at hP hD
          obtain ⟨s16, es16⟩ : ∃ z : MI, z = st2 σ 25 (Int32.toNatClampNeg x3) 0 := ⟨_, rfl⟩
          rw [← es16] at hP hD
          replace hv := hv s16 es16
          refine lv_aload_n hx hb d_Tugs_serve_17 rfl (lv_at hl 2 rfl) ?_
          refine va_get (D := D) (ci := 2) (v := .ref (ad 26)) (C := R_Plan) (T := F_Plan) (N := 9) hx hb hts iw_Plan hown hK hP 22 rfl rfl 7 (by decide) (hts _ t_w163) (fun _ h9 => h9) rfl d_Tugs_serve_18 ?_
          refine lv_iload_n hx hb d_Tugs_serve_21 rfl (lv_at hl 3 rfl) ?_
          refine lv_iconst (v := 0) hx hb d_Tugs_serve_22 (by decide) ?_
          obtain ⟨hi, hv⟩ := hv
          refine va_iast hx hb hK hP hD hS 26 0 rfl rfl hi d_Tugs_serve_23 (fun H locs hP hD hS => ?_)
          rw [xa_26] at hP hD
          obtain ⟨s23, es23⟩ : ∃ z : MI, z = st2 s16 26 (Int32.toNatClampNeg x3) 0 := ⟨_, rfl⟩
          rw [← es23] at hP hD
          replace hv := hv s23 es23
          obtain ⟨y24, ey24⟩ : ∃ z : Int32, z = x3 + 1 := ⟨_, rfl⟩
          replace hv := hv y24 ey24
          refine lv_iinc (v := y24) (lv' := [(3, .int y24), (0, .ref (ad 15)), (1, .ref (ad 8)), (2, .ref (ad 22))]) hx hb d_Tugs_serve_24 hl (k := 3) rfl (by rw [ey24]; rfl) (by decide) rfl (fun ls hl => ?_)
          refine lv_goto (tgt := 2) hx hb d_Tugs_serve_27 (by decide) ?_
          obtain ⟨hI, hm⟩ := hv
          exact ih.1 y24 s23 τ _ _ _ (Nat.lt_of_lt_of_le hm (Nat.le_of_lt_succ hn)) hI hP hD hS (lv_sub hl [1, 2, 3, 0] rfl)
      · intro x3 σ τ H locs ls hn hI hP hD hS hl
        have hv := v32 σ0 τ0 x3 σ τ hI
        unfold s_Tugs_serve_32 at hv
        refine lv_iload_n hx hb d_Tugs_serve_32 rfl (lv_at hl 3 rfl) ?_
        refine lv_aload_n hx hb d_Tugs_serve_33 rfl (lv_at hl 1 rfl) ?_
        refine va_get (D := D) (ci := 0) (v := .int (σ 8 0)) (C := R_Jobs) (T := F_Jobs) (N := 7) hx hb hts iw_Jobs hown hK hP 8 rfl rfl 0 (by decide) (hts _ t_w148) (fun _ h9 => h9) rfl d_Tugs_serve_34 ?_
        refine lv_icmp_ge (tgt := 122) hx hb d_Tugs_serve_37 (by decide) (fun hc => ?_) (fun hc => ?_)
        · replace hv := hv.1 hc
          exact gk_vret hx hb hr hlocks hK hP hD hS hv d_Tugs_serve_122
        · replace hv := hv.2 hc
          refine lv_aload_n hx hb d_Tugs_serve_40 rfl (lv_at hl 1 rfl) ?_
          refine va_get (D := D) (ci := 0) (v := .ref (ad 14)) (C := R_Jobs) (T := F_Jobs) (N := 7) hx hb hts iw_Jobs hown hK hP 8 rfl rfl 6 (by decide) (hts _ t_w164) (fun _ h9 => h9) rfl d_Tugs_serve_41 ?_
          refine lv_iload_n hx hb d_Tugs_serve_44 rfl (lv_at hl 3 rfl) ?_
          obtain ⟨hi, hv⟩ := hv
          refine va_iald hx hb hK hP 14 0 rfl rfl hi d_Tugs_serve_45 ?_
          refine lv_topi (fun y46 ey46 => ?_)
          replace hv := hv y46 ey46
          refine lv_istore (lv' := [(4, .int y46), (0, .ref (ad 15)), (1, .ref (ad 8)), (2, .ref (ad 22)), (3, .int x3)]) hx hb d_Tugs_serve_46 hl (by decide) rfl (fun ls hl => ?_)
          refine lv_aload_n hx hb d_Tugs_serve_48 rfl (lv_at hl 3 rfl) ?_
          refine va_get (D := D) (ci := 2) (v := .ref (ad 23)) (C := R_Plan) (T := F_Plan) (N := 9) hx hb hts iw_Plan hown hK hP 22 rfl rfl 4 (by decide) (hts _ t_w165) (fun _ h9 => h9) rfl d_Tugs_serve_49 ?_
          refine lv_iload hx hb d_Tugs_serve_52 (lv_at hl 0 rfl) ?_
          obtain ⟨hi, hv⟩ := hv
          refine va_iald hx hb hK hP 23 0 rfl rfl hi d_Tugs_serve_54 ?_
          refine lv_iconst (v := (-1)) hx hb d_Tugs_serve_55 (by decide) ?_
          refine lv_icmp_eq (tgt := 116) hx hb d_Tugs_serve_56 (by decide) (fun hc => ?_) (fun hc => ?_)
          · replace hv := hv.1 hc
            obtain ⟨y116, ey116⟩ : ∃ z : Int32, z = x3 + 1 := ⟨_, rfl⟩
            replace hv := hv y116 ey116
            refine lv_iinc (v := y116) (lv' := [(3, .int y116), (4, .int y46), (0, .ref (ad 15)), (1, .ref (ad 8)), (2, .ref (ad 22))]) hx hb d_Tugs_serve_116 hl (k := 4) rfl (by rw [ey116]; rfl) (by decide) rfl (fun ls hl => ?_)
            refine lv_goto (tgt := 32) hx hb d_Tugs_serve_119 (by decide) ?_
            obtain ⟨hI, hm⟩ := hv
            exact ih.2 y116 σ τ _ _ _ (Nat.lt_of_lt_of_le hm (Nat.le_of_lt_succ hn)) hI hP hD hS (lv_sub hl [2, 3, 4, 0] rfl)
          · replace hv := hv.2 hc
            refine lv_aload_n hx hb d_Tugs_serve_59 rfl (lv_at hl 2 rfl) ?_
            refine va_get (D := D) (ci := 0) (v := .ref (ad 10)) (C := R_Jobs) (T := F_Jobs) (N := 7) hx hb hts iw_Jobs hown hK hP 8 rfl rfl 2 (by decide) (hts _ t_w166) (fun _ h9 => h9) rfl d_Tugs_serve_60 ?_
            refine lv_iload hx hb d_Tugs_serve_63 (lv_at hl 0 rfl) ?_
            obtain ⟨hi, hv⟩ := hv
            refine va_iald hx hb hK hP 10 0 rfl rfl hi d_Tugs_serve_65 ?_
            refine lv_if_le (tgt := 116) hx hb d_Tugs_serve_66 (by decide) (fun hc => ?_) (fun hc => ?_)
            · replace hv := hv.1 hc
              obtain ⟨y116, ey116⟩ : ∃ z : Int32, z = x3 + 1 := ⟨_, rfl⟩
              replace hv := hv y116 ey116
              refine lv_iinc (v := y116) (lv' := [(3, .int y116), (4, .int y46), (0, .ref (ad 15)), (1, .ref (ad 8)), (2, .ref (ad 22))]) hx hb d_Tugs_serve_116 hl (k := 4) rfl (by rw [ey116]; rfl) (by decide) rfl (fun ls hl => ?_)
              refine lv_goto (tgt := 32) hx hb d_Tugs_serve_119 (by decide) ?_
              obtain ⟨hI, hm⟩ := hv
              exact ih.2 y116 σ τ _ _ _ (Nat.lt_of_lt_of_le hm (Nat.le_of_lt_succ hn)) hI hP hD hS (lv_sub hl [2, 3, 4, 0] rfl)
            · replace hv := hv.2 hc
              refine lv_aload_n hx hb d_Tugs_serve_69 rfl (lv_at hl 1 rfl) ?_
              refine lv_aload_n hx hb d_Tugs_serve_70 rfl (lv_at hl 1 rfl) ?_
              refine lv_iload hx hb d_Tugs_serve_71 (lv_at hl 0 rfl) ?_
              refine lv_aload_n hx hb d_Tugs_serve_73 rfl (lv_at hl 2 rfl) ?_
              refine lv_aload_n hx hb d_Tugs_serve_74 rfl (lv_at hl 3 rfl) ?_
              obtain ⟨hg, hv⟩ := hv
              refine gk_callVi (As := [.int y46, .ref (ad 8), .ref (ad 22)]) (rest := [.ref (ad 15)]) (b := ad 15) ⟨hx, hb, hml, hown, hts⟩ (h_Tugs_freeFor _ σ τ y46 hg) (gk_cwV 3 hts t_w170 rfl rfl rfl (hts _ t_w167) (hts _ t_w168) (hts _ t_w169) (hts _ t_w37) (by decide +kernel) ⟨Nat.le_of_ble_eq_true rfl, Nat.le_of_ble_eq_true rfl⟩) hK hP hD hS (va_recv hK hP (ci := 4) (q0 := 15) rfl rfl) rfl hl.1 rfl (lv_room (Nat.le_of_ble_eq_true rfl)) d_Tugs_serve_75 ⟨Nat.zero_le _, Nat.zero_le _⟩ ?_
              intro r75 s75 t75 H locs hw hP hD hS
              replace hv := hv r75 s75 t75 hw
              refine lv_aload_n hx hb d_Tugs_serve_78 rfl (lv_at hl 2 rfl) ?_
              refine va_get (D := D) (ci := 0) (v := .ref (ad 10)) (C := R_Jobs) (T := F_Jobs) (N := 7) hx hb hts iw_Jobs hown hK hP 8 rfl rfl 2 (by decide) (hts _ t_w166) (fun _ h9 => h9) rfl d_Tugs_serve_79 ?_
              refine lv_iload hx hb d_Tugs_serve_82 (lv_at hl 0 rfl) ?_
              obtain ⟨hi, hv⟩ := hv
              refine va_iald hx hb hK hP 10 0 rfl rfl hi d_Tugs_serve_84 ?_
              obtain ⟨hg, hv⟩ := hv
              refine gk_callVi (As := [.int r75, .int (s75 10 (Int32.toNatClampNeg y46))]) (rest := []) (b := ad 15) ⟨hx, hb, hml, hown, hts⟩ (h_Tugs_choose _ s75 t75 r75 (s75 10 (Int32.toNatClampNeg y46)) hg) (gk_cwV 2 hts t_w174 rfl rfl rfl (hts _ t_w171) (hts _ t_w172) (hts _ t_w173) (hts _ t_w37) (by decide +kernel) ⟨Nat.le_of_ble_eq_true rfl, Nat.le_of_ble_eq_true rfl⟩) hK hP hD hS (va_recv hK hP (ci := 4) (q0 := 15) rfl rfl) rfl hl.1 rfl (lv_room (Nat.le_of_ble_eq_true rfl)) d_Tugs_serve_85 ⟨Nat.zero_le _, Nat.zero_le _⟩ ?_
              intro r85 s85 t85 H locs hw hP hD hS
              replace hv := hv r85 s85 t85 hw
              refine lv_istore (lv' := [(5, .int r85), (4, .int y46), (0, .ref (ad 15)), (1, .ref (ad 8)), (2, .ref (ad 22)), (3, .int x3)]) hx hb d_Tugs_serve_88 hl (by decide) rfl (fun ls hl => ?_)
              refine lv_aload_n hx hb d_Tugs_serve_90 rfl (lv_at hl 4 rfl) ?_
              refine va_get (D := D) (ci := 2) (v := .ref (ad 25)) (C := R_Plan) (T := F_Plan) (N := 9) hx hb hts iw_Plan hown hK hP 22 rfl rfl 6 (by decide) (hts _ t_w153) (fun _ h9 => h9) rfl d_Tugs_serve_91 ?_
              refine lv_iload hx hb d_Tugs_serve_94 (lv_at hl 1 rfl) ?_
              refine lv_iload hx hb d_Tugs_serve_96 (lv_at hl 0 rfl) ?_
              obtain ⟨hi, hv⟩ := hv
              refine va_iast hx hb hK hP hD hS 25 0 rfl rfl hi d_Tugs_serve_98 (fun H locs hP hD hS => ?_)
              rw [xa_25] at hP hD
              obtain ⟨s98, es98⟩ : ∃ z : MI, z = st2 s85 25 (Int32.toNatClampNeg y46) r85 := ⟨_, rfl⟩
              rw [← es98] at hP hD
              replace hv := hv s98 es98
              refine lv_aload_n hx hb d_Tugs_serve_99 rfl (lv_at hl 4 rfl) ?_
              refine va_get (D := D) (ci := 2) (v := .ref (ad 26)) (C := R_Plan) (T := F_Plan) (N := 9) hx hb hts iw_Plan hown hK hP 22 rfl rfl 7 (by decide) (hts _ t_w163) (fun _ h9 => h9) rfl d_Tugs_serve_100 ?_
              refine lv_iload hx hb d_Tugs_serve_103 (lv_at hl 1 rfl) ?_
              refine lv_iload hx hb d_Tugs_serve_105 (lv_at hl 0 rfl) ?_
              refine lv_if_ne (tgt := 114) hx hb d_Tugs_serve_107 (by decide) (fun hc => ?_) (fun hc => ?_)
              · replace hv := hv.1 hc
                refine lv_iconst (v := 0) hx hb d_Tugs_serve_114 (by decide) ?_
                obtain ⟨hi, hv⟩ := hv
                refine va_iast hx hb hK hP hD hS 26 0 rfl rfl hi d_Tugs_serve_115 (fun H locs hP hD hS => ?_)
                rw [xa_26] at hP hD
                obtain ⟨s115, es115⟩ : ∃ z : MI, z = st2 s98 26 (Int32.toNatClampNeg y46) 0 := ⟨_, rfl⟩
                rw [← es115] at hP hD
                replace hv := hv s115 es115
                obtain ⟨y116, ey116⟩ : ∃ z : Int32, z = x3 + 1 := ⟨_, rfl⟩
                replace hv := hv y116 ey116
                refine lv_iinc (v := y116) (lv' := [(3, .int y116), (5, .int r85), (4, .int y46), (0, .ref (ad 15)), (1, .ref (ad 8)), (2, .ref (ad 22))]) hx hb d_Tugs_serve_116 hl (k := 5) rfl (by rw [ey116]; rfl) (by decide) rfl (fun ls hl => ?_)
                refine lv_goto (tgt := 32) hx hb d_Tugs_serve_119 (by decide) ?_
                obtain ⟨hI, hm⟩ := hv
                exact ih.2 y116 s115 t85 _ _ _ (Nat.lt_of_lt_of_le hm (Nat.le_of_lt_succ hn)) hI hP hD hS (lv_sub hl [3, 4, 5, 0] rfl)
              · replace hv := hv.2 hc
                refine lv_iconst (v := 1) hx hb d_Tugs_serve_110 (by decide) ?_
                refine lv_goto (tgt := 115) hx hb d_Tugs_serve_111 (by decide) ?_
                obtain ⟨hi, hv⟩ := hv
                refine va_iast hx hb hK hP hD hS 26 0 rfl rfl hi d_Tugs_serve_115 (fun H locs hP hD hS => ?_)
                rw [xa_26] at hP hD
                obtain ⟨s115, es115⟩ : ∃ z : MI, z = st2 s98 26 (Int32.toNatClampNeg y46) 1 := ⟨_, rfl⟩
                rw [← es115] at hP hD
                replace hv := hv s115 es115
                obtain ⟨y116, ey116⟩ : ∃ z : Int32, z = x3 + 1 := ⟨_, rfl⟩
                replace hv := hv y116 ey116
                refine lv_iinc (v := y116) (lv' := [(3, .int y116), (5, .int r85), (4, .int y46), (0, .ref (ad 15)), (1, .ref (ad 8)), (2, .ref (ad 22))]) hx hb d_Tugs_serve_116 hl (k := 5) rfl (by rw [ey116]; rfl) (by decide) rfl (fun ls hl => ?_)
                refine lv_goto (tgt := 32) hx hb d_Tugs_serve_119 (by decide) ?_
                obtain ⟨hI, hm⟩ := hv
                exact ih.2 y116 s115 t85 _ _ _ (Nat.lt_of_lt_of_le hm (Nat.le_of_lt_succ hn)) hI hP hD hS (lv_sub hl [3, 4, 5, 0] rfl)
  have hv := v0 σ0 τ0 hpre
  unfold s_Tugs_serve_0 at hv
  refine lv_iconst (v := 0) hx hb d_Tugs_serve_0 (by decide) ?_
  refine lv_istore_n (lv' := [(3, .int 0), (0, .ref (ad 15)), (1, .ref (ad 8)), (2, .ref (ad 22))]) hx hb d_Tugs_serve_1 rfl hl (by decide) rfl (fun ls hl => ?_)
  exact (hL _).1 0 σ0 τ0 _ _ _ (Nat.lt_succ_self _) hv hP hD hS (lv_sub hl [1, 2, 3, 0] rfl)
theorem d_PT_makePlan_0 : decode b_PT_makePlan 0 = .ok (.aload_n 0, 1) := by decide +kernel
theorem d_PT_makePlan_1 : decode b_PT_makePlan 1 = .ok (.getfield 19, 3) := by decide +kernel
theorem d_PT_makePlan_4 : decode b_PT_makePlan 4 = .ok (.invokevirtual 197, 3) := by decide +kernel
theorem d_PT_makePlan_7 : decode b_PT_makePlan 7 = .ok (.aload_n 0, 1) := by decide +kernel
theorem d_PT_makePlan_8 : decode b_PT_makePlan 8 = .ok (.getfield 47, 3) := by decide +kernel
theorem d_PT_makePlan_11 : decode b_PT_makePlan 11 = .ok (.aload_n 0, 1) := by decide +kernel
theorem d_PT_makePlan_12 : decode b_PT_makePlan 12 = .ok (.getfield 10, 3) := by decide +kernel
theorem d_PT_makePlan_15 : decode b_PT_makePlan 15 = .ok (.aload_n 0, 1) := by decide +kernel
theorem d_PT_makePlan_16 : decode b_PT_makePlan 16 = .ok (.getfield 19, 3) := by decide +kernel
theorem d_PT_makePlan_19 : decode b_PT_makePlan 19 = .ok (.invokevirtual 200, 3) := by decide +kernel
theorem d_PT_makePlan_22 : decode b_PT_makePlan 22 = .ok (.putfield 194, 3) := by decide +kernel
theorem d_PT_makePlan_25 : decode b_PT_makePlan 25 = .ok (.aload_n 0, 1) := by decide +kernel
theorem d_PT_makePlan_26 : decode b_PT_makePlan 26 = .ok (.getfield 40, 3) := by decide +kernel
theorem d_PT_makePlan_29 : decode b_PT_makePlan 29 = .ok (.aload_n 0, 1) := by decide +kernel
theorem d_PT_makePlan_30 : decode b_PT_makePlan 30 = .ok (.getfield 10, 3) := by decide +kernel
theorem d_PT_makePlan_33 : decode b_PT_makePlan 33 = .ok (.aload_n 0, 1) := by decide +kernel
theorem d_PT_makePlan_34 : decode b_PT_makePlan 34 = .ok (.getfield 19, 3) := by decide +kernel
theorem d_PT_makePlan_37 : decode b_PT_makePlan 37 = .ok (.aload_n 0, 1) := by decide +kernel
theorem d_PT_makePlan_38 : decode b_PT_makePlan 38 = .ok (.getfield 33, 3) := by decide +kernel
theorem d_PT_makePlan_41 : decode b_PT_makePlan 41 = .ok (.aload_n 0, 1) := by decide +kernel
theorem d_PT_makePlan_42 : decode b_PT_makePlan 42 = .ok (.getfield 47, 3) := by decide +kernel
theorem d_PT_makePlan_45 : decode b_PT_makePlan 45 = .ok (.invokevirtual 204, 3) := by decide +kernel
theorem d_PT_makePlan_48 : decode b_PT_makePlan 48 = .ok (.aload_n 0, 1) := by decide +kernel
theorem d_PT_makePlan_49 : decode b_PT_makePlan 49 = .ok (.getfield 47, 3) := by decide +kernel
theorem d_PT_makePlan_52 : decode b_PT_makePlan 52 = .ok (.aload_n 0, 1) := by decide +kernel
theorem d_PT_makePlan_53 : decode b_PT_makePlan 53 = .ok (.getfield 10, 3) := by decide +kernel
theorem d_PT_makePlan_56 : decode b_PT_makePlan 56 = .ok (.aload_n 0, 1) := by decide +kernel
theorem d_PT_makePlan_57 : decode b_PT_makePlan 57 = .ok (.getfield 19, 3) := by decide +kernel
theorem d_PT_makePlan_60 : decode b_PT_makePlan 60 = .ok (.aload_n 0, 1) := by decide +kernel
theorem d_PT_makePlan_61 : decode b_PT_makePlan 61 = .ok (.getfield 33, 3) := by decide +kernel
theorem d_PT_makePlan_64 : decode b_PT_makePlan 64 = .ok (.invokevirtual 208, 3) := by decide +kernel
theorem d_PT_makePlan_67 : decode b_PT_makePlan 67 = .ok (.aload_n 0, 1) := by decide +kernel
theorem d_PT_makePlan_68 : decode b_PT_makePlan 68 = .ok (.getfield 26, 3) := by decide +kernel
theorem d_PT_makePlan_71 : decode b_PT_makePlan 71 = .ok (.aload_n 0, 1) := by decide +kernel
theorem d_PT_makePlan_72 : decode b_PT_makePlan 72 = .ok (.getfield 19, 3) := by decide +kernel
theorem d_PT_makePlan_75 : decode b_PT_makePlan 75 = .ok (.aload_n 0, 1) := by decide +kernel
theorem d_PT_makePlan_76 : decode b_PT_makePlan 76 = .ok (.getfield 47, 3) := by decide +kernel
theorem d_PT_makePlan_79 : decode b_PT_makePlan 79 = .ok (.invokevirtual 212, 3) := by decide +kernel
theorem d_PT_makePlan_82 : decode b_PT_makePlan 82 = .ok (.aload_n 0, 1) := by decide +kernel
theorem d_PT_makePlan_83 : decode b_PT_makePlan 83 = .ok (.getfield 47, 3) := by decide +kernel
theorem d_PT_makePlan_86 : decode b_PT_makePlan 86 = .ok (.iconst 1, 1) := by decide +kernel
theorem d_PT_makePlan_87 : decode b_PT_makePlan 87 = .ok (.putfield 78, 3) := by decide +kernel
theorem d_PT_makePlan_90 : decode b_PT_makePlan 90 = .ok (.return_, 1) := by decide +kernel
def s_PT_makePlan_0 (P_Jobs_putInOrder : MI → ML → Prop) (Q_Jobs_putInOrder : MI → ML → MI → ML → Prop) (P_People_askRules : MI → ML → Prop) (Q_People_askRules : MI → ML → Int32 → MI → ML → Prop) (P_Planner_divide : MI → ML → Prop) (Q_Planner_divide : MI → ML → MI → ML → Prop) (P_Plan_walk : MI → ML → Prop) (Q_Plan_walk : MI → ML → MI → ML → Prop) (P_Tugs_serve : MI → ML → Prop) (Q_Tugs_serve : MI → ML → MI → ML → Prop) (σ : MI) (τ : ML) (R : MI → ML → Prop) : Prop :=
  P_Jobs_putInOrder σ τ  ∧ ∀ (s4 : MI) (t4 : ML), Q_Jobs_putInOrder σ τ  s4 t4 → (P_People_askRules s4 t4  ∧ ∀ (r19 : Int32) (s19 : MI) (t19 : ML), Q_People_askRules s4 t4  r19 s19 t19 → (∀ s22 : MI, s22 = st2 s19 22 1 r19 → (P_Planner_divide s22 t19  ∧ ∀ (s45 : MI) (t45 : ML), Q_Planner_divide s22 t19  s45 t45 → (P_Plan_walk s45 t45  ∧ ∀ (s64 : MI) (t64 : ML), Q_Plan_walk s45 t45  s64 t64 → (P_Tugs_serve s64 t64  ∧ ∀ (s79 : MI) (t79 : ML), Q_Tugs_serve s64 t64  s79 t79 → (∀ s87 : MI, s87 = st2 s79 22 0 1 → (R s87 t79)))))))
set_option maxHeartbeats 4000000 in
set_option maxRecDepth 100000 in
theorem k_PT_makePlan (l : Launch) (D : va_G) (ad : Nat → Nat) (ci cl : ClassId)
    (pre : MI → ML → Prop) (post : MI → ML → MI → ML → Prop) (P_Jobs_putInOrder : MI → ML → Prop) (Q_Jobs_putInOrder : MI → ML → MI → ML → Prop) (P_People_askRules : MI → ML → Prop) (Q_People_askRules : MI → ML → Int32 → MI → ML → Prop) (P_Planner_divide : MI → ML → Prop) (Q_Planner_divide : MI → ML → MI → ML → Prop) (P_Plan_walk : MI → ML → Prop) (Q_Plan_walk : MI → ML → MI → ML → Prop) (P_Tugs_serve : MI → ML → Prop) (Q_Tugs_serve : MI → ML → MI → ML → Prop)
    (h_Jobs_putInOrder : ∀ (sz : Nat) (σ : MI) (τ : ML), P_Jobs_putInOrder σ τ → gMv l D (xw ad ci cl) (xt ci cl) (xa ad) y_Jobs_putInOrder w_Jobs_putInOrder rm_Jobs_putInOrder [.ref (ad 8)] sz σ τ (Q_Jobs_putInOrder σ τ))
    (h_People_askRules : ∀ (sz : Nat) (σ : MI) (τ : ML), P_People_askRules σ τ → gMi l D (xw ad ci cl) (xt ci cl) (xa ad) y_People_askRules w_People_askRules rm_People_askRules [.ref (ad 1), .ref (ad 8)] sz σ τ (Q_People_askRules σ τ))
    (h_Planner_divide : ∀ (sz : Nat) (σ : MI) (τ : ML), P_Planner_divide σ τ → gMv l D (xw ad ci cl) (xt ci cl) (xa ad) y_Planner_divide w_Planner_divide rm_Planner_divide [.ref (ad 19), .ref (ad 1), .ref (ad 8), .ref (ad 17), .ref (ad 22)] sz σ τ (Q_Planner_divide σ τ))
    (h_Plan_walk : ∀ (sz : Nat) (σ : MI) (τ : ML), P_Plan_walk σ τ → gMv l D (xw ad ci cl) (xt ci cl) (xa ad) y_Plan_walk w_Plan_walk rm_Plan_walk [.ref (ad 22), .ref (ad 1), .ref (ad 8), .ref (ad 17)] sz σ τ (Q_Plan_walk σ τ))
    (h_Tugs_serve : ∀ (sz : Nat) (σ : MI) (τ : ML), P_Tugs_serve σ τ → gMv l D (xw ad ci cl) (xt ci cl) (xa ad) y_Tugs_serve w_Tugs_serve rm_Tugs_serve [.ref (ad 15), .ref (ad 8), .ref (ad 22)] sz σ τ (Q_Tugs_serve σ τ))
    (v0 : ∀ (σ0 : MI) (τ0 : ML), pre σ0 τ0 → s_PT_makePlan_0 P_Jobs_putInOrder Q_Jobs_putInOrder P_People_askRules Q_People_askRules P_Planner_divide Q_Planner_divide P_Plan_walk Q_Plan_walk P_Tugs_serve Q_Tugs_serve σ0 τ0 (post σ0 τ0)) :
    ∀ (sz : Nat) (σ0 : MI) (τ0 : ML), pre σ0 τ0 → gMv l D (xw ad ci cl) (xt ci cl) (xa ad) y_PT_makePlan w_PT_makePlan rm_PT_makePlan [.ref (ad 0)] sz σ0 τ0 (post σ0 τ0) := by
  intro sz σ0 τ0 hpre
  refine gk_ofWv (cc := b_PT_makePlan) (maxL := 1) (ret := none) (by decide) rfl xa_ok (Nat.le_of_ble_eq_true rfl) ?_
  intro p e s m below meth c ls hx hb hr hlocks hml hown hts hK hP hD hS hl
  have hl : lv_has ls 1 [(0, .ref (ad 0))] := hl
  have hown : s.vm.findClass R_PT = some m.cls := hown
  have hv := v0 σ0 τ0 hpre
  unfold s_PT_makePlan_0 at hv
  refine lv_aload_n hx hb d_PT_makePlan_0 rfl (lv_at hl 0 rfl) ?_
  refine va_get (D := D) (ci := 6) (v := .ref (ad 8)) (C := R_PT) (T := F_PT) (N := 6) hx hb hts iw_PT hown hK hP 0 rfl rfl 1 (by decide) (hts _ t_w45) (fun _ h9 => h9) rfl d_PT_makePlan_1 ?_
  obtain ⟨hg, hv⟩ := hv
  refine gk_callVv (As := []) (rest := []) (b := ad 8) ⟨hx, hb, hml, hown, hts⟩ (h_Jobs_putInOrder _ σ0 τ0  hg) (gk_cwV 0 hts t_w178 rfl rfl rfl (hts _ t_w175) (hts _ t_w176) (hts _ t_w177) (hts _ t_w50) (by decide +kernel) ⟨Nat.le_of_ble_eq_true rfl, Nat.le_of_ble_eq_true rfl⟩) hK hP hD hS (va_recv hK hP (ci := 0) (q0 := 8) rfl rfl) rfl hl.1 rfl (lv_room (Nat.le_of_ble_eq_true rfl)) d_PT_makePlan_4 ⟨Nat.zero_le _, Nat.zero_le _⟩ ?_
  intro s4 t4 H locs hw hP hD hS
  replace hv := hv s4 t4 hw
  refine lv_aload_n hx hb d_PT_makePlan_7 rfl (lv_at hl 0 rfl) ?_
  refine va_get (D := D) (ci := 6) (v := .ref (ad 22)) (C := R_PT) (T := F_PT) (N := 6) hx hb hts iw_PT hown hK hP 0 rfl rfl 5 (by decide) (hts _ t_w23) (fun _ h9 => h9) rfl d_PT_makePlan_8 ?_
  refine lv_aload_n hx hb d_PT_makePlan_11 rfl (lv_at hl 0 rfl) ?_
  refine va_get (D := D) (ci := 6) (v := .ref (ad 1)) (C := R_PT) (T := F_PT) (N := 6) hx hb hts iw_PT hown hK hP 0 rfl rfl 0 (by decide) (hts _ t_w21) (fun _ h9 => h9) rfl d_PT_makePlan_12 ?_
  refine lv_aload_n hx hb d_PT_makePlan_15 rfl (lv_at hl 0 rfl) ?_
  refine va_get (D := D) (ci := 6) (v := .ref (ad 8)) (C := R_PT) (T := F_PT) (N := 6) hx hb hts iw_PT hown hK hP 0 rfl rfl 1 (by decide) (hts _ t_w45) (fun _ h9 => h9) rfl d_PT_makePlan_16 ?_
  obtain ⟨hg, hv⟩ := hv
  refine gk_callVi (As := [.ref (ad 8)]) (rest := [.ref (ad 22)]) (b := ad 1) ⟨hx, hb, hml, hown, hts⟩ (h_People_askRules _ s4 t4  hg) (gk_cwV 1 hts t_w182 rfl rfl rfl (hts _ t_w179) (hts _ t_w180) (hts _ t_w181) (hts _ t_w28) (by decide +kernel) ⟨Nat.le_of_ble_eq_true rfl, Nat.le_of_ble_eq_true rfl⟩) hK hP hD hS (va_recv hK hP (ci := 1) (q0 := 1) rfl rfl) rfl hl.1 rfl (lv_room (Nat.le_of_ble_eq_true rfl)) d_PT_makePlan_19 ⟨Nat.zero_le _, Nat.zero_le _⟩ ?_
  intro r19 s19 t19 H locs hw hP hD hS
  replace hv := hv r19 s19 t19 hw
  refine va_put (D := D) (ci := 2) (v := .int r19) (ty := .int) (fs := [.int (s19 22 0), .int (s19 22 1), .int (s19 22 2), .int (s19 22 3), .ref (ad 23), .ref (ad 24), .ref (ad 25), .ref (ad 26), .ref (ad 27)]) (C := R_Plan) (T := F_Plan) (N := 9) hx hb hts iw_Plan ty_Plan ty_Plan_ok nn_Plan hown hK hP hD hS 22 rfl rfl 1 (by decide) (hts _ t_w183) (fun _ h9 => h9) rfl (by decide +kernel) rfl rfl (Nat.le_of_ble_eq_true rfl) d_PT_makePlan_22 (fun H locs hP hD hS => ?_)
  rw [xf_22_1] at hP hD
  obtain ⟨s22, es22⟩ : ∃ z : MI, z = st2 s19 22 1 r19 := ⟨_, rfl⟩
  rw [← es22] at hP hD
  replace hv := hv s22 es22
  refine lv_aload_n hx hb d_PT_makePlan_25 rfl (lv_at hl 0 rfl) ?_
  refine va_get (D := D) (ci := 6) (v := .ref (ad 19)) (C := R_PT) (T := F_PT) (N := 6) hx hb hts iw_PT hown hK hP 0 rfl rfl 4 (by decide) (hts _ t_w184) (fun _ h9 => h9) rfl d_PT_makePlan_26 ?_
  refine lv_aload_n hx hb d_PT_makePlan_29 rfl (lv_at hl 0 rfl) ?_
  refine va_get (D := D) (ci := 6) (v := .ref (ad 1)) (C := R_PT) (T := F_PT) (N := 6) hx hb hts iw_PT hown hK hP 0 rfl rfl 0 (by decide) (hts _ t_w21) (fun _ h9 => h9) rfl d_PT_makePlan_30 ?_
  refine lv_aload_n hx hb d_PT_makePlan_33 rfl (lv_at hl 0 rfl) ?_
  refine va_get (D := D) (ci := 6) (v := .ref (ad 8)) (C := R_PT) (T := F_PT) (N := 6) hx hb hts iw_PT hown hK hP 0 rfl rfl 1 (by decide) (hts _ t_w45) (fun _ h9 => h9) rfl d_PT_makePlan_34 ?_
  refine lv_aload_n hx hb d_PT_makePlan_37 rfl (lv_at hl 0 rfl) ?_
  refine va_get (D := D) (ci := 6) (v := .ref (ad 17)) (C := R_PT) (T := F_PT) (N := 6) hx hb hts iw_PT hown hK hP 0 rfl rfl 3 (by decide) (hts _ t_w53) (fun _ h9 => h9) rfl d_PT_makePlan_38 ?_
  refine lv_aload_n hx hb d_PT_makePlan_41 rfl (lv_at hl 0 rfl) ?_
  refine va_get (D := D) (ci := 6) (v := .ref (ad 22)) (C := R_PT) (T := F_PT) (N := 6) hx hb hts iw_PT hown hK hP 0 rfl rfl 5 (by decide) (hts _ t_w23) (fun _ h9 => h9) rfl d_PT_makePlan_42 ?_
  obtain ⟨hg, hv⟩ := hv
  refine gk_callVv (As := [.ref (ad 1), .ref (ad 8), .ref (ad 17), .ref (ad 22)]) (rest := []) (b := ad 19) ⟨hx, hb, hml, hown, hts⟩ (h_Planner_divide _ s22 t19  hg) (gk_cwV 4 hts t_w188 rfl rfl rfl (hts _ t_w185) (hts _ t_w186) (hts _ t_w187) (hts _ t_w75) (by decide +kernel) ⟨Nat.le_of_ble_eq_true rfl, Nat.le_of_ble_eq_true rfl⟩) hK hP hD hS (va_recv hK hP (ci := 3) (q0 := 19) rfl rfl) rfl hl.1 rfl (lv_room (Nat.le_of_ble_eq_true rfl)) d_PT_makePlan_45 ⟨Nat.zero_le _, Nat.zero_le _⟩ ?_
  intro s45 t45 H locs hw hP hD hS
  replace hv := hv s45 t45 hw
  refine lv_aload_n hx hb d_PT_makePlan_48 rfl (lv_at hl 0 rfl) ?_
  refine va_get (D := D) (ci := 6) (v := .ref (ad 22)) (C := R_PT) (T := F_PT) (N := 6) hx hb hts iw_PT hown hK hP 0 rfl rfl 5 (by decide) (hts _ t_w23) (fun _ h9 => h9) rfl d_PT_makePlan_49 ?_
  refine lv_aload_n hx hb d_PT_makePlan_52 rfl (lv_at hl 0 rfl) ?_
  refine va_get (D := D) (ci := 6) (v := .ref (ad 1)) (C := R_PT) (T := F_PT) (N := 6) hx hb hts iw_PT hown hK hP 0 rfl rfl 0 (by decide) (hts _ t_w21) (fun _ h9 => h9) rfl d_PT_makePlan_53 ?_
  refine lv_aload_n hx hb d_PT_makePlan_56 rfl (lv_at hl 0 rfl) ?_
  refine va_get (D := D) (ci := 6) (v := .ref (ad 8)) (C := R_PT) (T := F_PT) (N := 6) hx hb hts iw_PT hown hK hP 0 rfl rfl 1 (by decide) (hts _ t_w45) (fun _ h9 => h9) rfl d_PT_makePlan_57 ?_
  refine lv_aload_n hx hb d_PT_makePlan_60 rfl (lv_at hl 0 rfl) ?_
  refine va_get (D := D) (ci := 6) (v := .ref (ad 17)) (C := R_PT) (T := F_PT) (N := 6) hx hb hts iw_PT hown hK hP 0 rfl rfl 3 (by decide) (hts _ t_w53) (fun _ h9 => h9) rfl d_PT_makePlan_61 ?_
  obtain ⟨hg, hv⟩ := hv
  refine gk_callVv (As := [.ref (ad 1), .ref (ad 8), .ref (ad 17)]) (rest := []) (b := ad 22) ⟨hx, hb, hml, hown, hts⟩ (h_Plan_walk _ s45 t45  hg) (gk_cwV 3 hts t_w192 rfl rfl rfl (hts _ t_w189) (hts _ t_w190) (hts _ t_w191) (hts _ t_w123) (by decide +kernel) ⟨Nat.le_of_ble_eq_true rfl, Nat.le_of_ble_eq_true rfl⟩) hK hP hD hS (va_recv hK hP (ci := 2) (q0 := 22) rfl rfl) rfl hl.1 rfl (lv_room (Nat.le_of_ble_eq_true rfl)) d_PT_makePlan_64 ⟨Nat.zero_le _, Nat.zero_le _⟩ ?_
  intro s64 t64 H locs hw hP hD hS
  replace hv := hv s64 t64 hw
  refine lv_aload_n hx hb d_PT_makePlan_67 rfl (lv_at hl 0 rfl) ?_
  refine va_get (D := D) (ci := 6) (v := .ref (ad 15)) (C := R_PT) (T := F_PT) (N := 6) hx hb hts iw_PT hown hK hP 0 rfl rfl 2 (by decide) (hts _ t_w32) (fun _ h9 => h9) rfl d_PT_makePlan_68 ?_
  refine lv_aload_n hx hb d_PT_makePlan_71 rfl (lv_at hl 0 rfl) ?_
  refine va_get (D := D) (ci := 6) (v := .ref (ad 8)) (C := R_PT) (T := F_PT) (N := 6) hx hb hts iw_PT hown hK hP 0 rfl rfl 1 (by decide) (hts _ t_w45) (fun _ h9 => h9) rfl d_PT_makePlan_72 ?_
  refine lv_aload_n hx hb d_PT_makePlan_75 rfl (lv_at hl 0 rfl) ?_
  refine va_get (D := D) (ci := 6) (v := .ref (ad 22)) (C := R_PT) (T := F_PT) (N := 6) hx hb hts iw_PT hown hK hP 0 rfl rfl 5 (by decide) (hts _ t_w23) (fun _ h9 => h9) rfl d_PT_makePlan_76 ?_
  obtain ⟨hg, hv⟩ := hv
  refine gk_callVv (As := [.ref (ad 8), .ref (ad 22)]) (rest := []) (b := ad 15) ⟨hx, hb, hml, hown, hts⟩ (h_Tugs_serve _ s64 t64  hg) (gk_cwV 2 hts t_w196 rfl rfl rfl (hts _ t_w193) (hts _ t_w194) (hts _ t_w195) (hts _ t_w37) (by decide +kernel) ⟨Nat.le_of_ble_eq_true rfl, Nat.le_of_ble_eq_true rfl⟩) hK hP hD hS (va_recv hK hP (ci := 4) (q0 := 15) rfl rfl) rfl hl.1 rfl (lv_room (Nat.le_of_ble_eq_true rfl)) d_PT_makePlan_79 ⟨Nat.zero_le _, Nat.zero_le _⟩ ?_
  intro s79 t79 H locs hw hP hD hS
  replace hv := hv s79 t79 hw
  refine lv_aload_n hx hb d_PT_makePlan_82 rfl (lv_at hl 0 rfl) ?_
  refine va_get (D := D) (ci := 6) (v := .ref (ad 22)) (C := R_PT) (T := F_PT) (N := 6) hx hb hts iw_PT hown hK hP 0 rfl rfl 5 (by decide) (hts _ t_w23) (fun _ h9 => h9) rfl d_PT_makePlan_83 ?_
  refine lv_iconst (v := 1) hx hb d_PT_makePlan_86 (by decide) ?_
  refine va_put (D := D) (ci := 2) (v := .int 1) (ty := .boolean) (fs := [.int (s79 22 0), .int (s79 22 1), .int (s79 22 2), .int (s79 22 3), .ref (ad 23), .ref (ad 24), .ref (ad 25), .ref (ad 26), .ref (ad 27)]) (C := R_Plan) (T := F_Plan) (N := 9) hx hb hts iw_Plan ty_Plan ty_Plan_ok nn_Plan hown hK hP hD hS 22 rfl rfl 0 (by decide) (hts _ t_w24) (fun _ h9 => h9) rfl (by decide +kernel) rfl rfl (Nat.le_of_ble_eq_true rfl) d_PT_makePlan_87 (fun H locs hP hD hS => ?_)
  rw [xf_22_0] at hP hD
  obtain ⟨s87, es87⟩ : ∃ z : MI, z = st2 s79 22 0 1 := ⟨_, rfl⟩
  rw [← es87] at hP hD
  replace hv := hv s87 es87
  exact gk_vret hx hb hr hlocks hK hP hD hS hv d_PT_makePlan_90
theorem d_PT_assign_0 : decode b_PT_assign 0 = .ok (.aload_n 0, 1) := by decide +kernel
theorem d_PT_assign_1 : decode b_PT_assign 1 = .ok (.invokevirtual 122, 3) := by decide +kernel
theorem d_PT_assign_4 : decode b_PT_assign 4 = .ok (.aload_n 0, 1) := by decide +kernel
theorem d_PT_assign_5 : decode b_PT_assign 5 = .ok (.getfield 47, 3) := by decide +kernel
theorem d_PT_assign_8 : decode b_PT_assign 8 = .ok (.getfield 125, 3) := by decide +kernel
theorem d_PT_assign_11 : decode b_PT_assign 11 = .ok (.ifCond .ne 7, 3) := by decide +kernel
theorem d_PT_assign_14 : decode b_PT_assign 14 = .ok (.iconst (-1), 1) := by decide +kernel
theorem d_PT_assign_15 : decode b_PT_assign 15 = .ok (.goto 10, 3) := by decide +kernel
theorem d_PT_assign_18 : decode b_PT_assign 18 = .ok (.aload_n 0, 1) := by decide +kernel
theorem d_PT_assign_19 : decode b_PT_assign 19 = .ok (.getfield 47, 3) := by decide +kernel
theorem d_PT_assign_22 : decode b_PT_assign 22 = .ok (.getfield 128, 3) := by decide +kernel
theorem d_PT_assign_25 : decode b_PT_assign 25 = .ok (.ireturn, 1) := by decide +kernel
def s_PT_assign_0 (P_PT_makePlan : MI → ML → Prop) (Q_PT_makePlan : MI → ML → MI → ML → Prop) (σ : MI) (τ : ML) (R : Int32 → MI → ML → Prop) : Prop :=
  P_PT_makePlan σ τ  ∧ ∀ (s1 : MI) (t1 : ML), Q_PT_makePlan σ τ  s1 t1 → ((¬ (s1 22 2) = 0 →
  (R (s1 22 3) s1 t1)) ∧
  ((s1 22 2) = 0 →
  (R ((-1)) s1 t1)))
set_option maxHeartbeats 4000000 in
set_option maxRecDepth 100000 in
theorem k_PT_assign (l : Launch) (D : va_G) (ad : Nat → Nat) (ci cl : ClassId)
    (pre : MI → ML → Prop) (post : MI → ML → Int32 → MI → ML → Prop) (P_PT_makePlan : MI → ML → Prop) (Q_PT_makePlan : MI → ML → MI → ML → Prop)
    (h_PT_makePlan : ∀ (sz : Nat) (σ : MI) (τ : ML), P_PT_makePlan σ τ → gMv l D (xw ad ci cl) (xt ci cl) (xa ad) y_PT_makePlan w_PT_makePlan rm_PT_makePlan [.ref (ad 0)] sz σ τ (Q_PT_makePlan σ τ))
    (v0 : ∀ (σ0 : MI) (τ0 : ML), pre σ0 τ0 → s_PT_assign_0 P_PT_makePlan Q_PT_makePlan σ0 τ0 (post σ0 τ0)) :
    ∀ (sz : Nat) (σ0 : MI) (τ0 : ML), pre σ0 τ0 → gMi l D (xw ad ci cl) (xt ci cl) (xa ad) y_PT_assign w_PT_assign rm_PT_assign [.ref (ad 0)] sz σ0 τ0 (post σ0 τ0) := by
  intro sz σ0 τ0 hpre
  refine gk_ofWi (cc := b_PT_assign) (maxL := 1) (ret := (some .int)) (by decide) rfl xa_ok (Nat.le_of_ble_eq_true rfl) ?_
  intro p e s m below meth c ls hx hb hr hlocks hml hown hts hK hP hD hS hl
  have hl : lv_has ls 1 [(0, .ref (ad 0))] := hl
  have hown : s.vm.findClass R_PT = some m.cls := hown
  have hv := v0 σ0 τ0 hpre
  unfold s_PT_assign_0 at hv
  refine lv_aload_n hx hb d_PT_assign_0 rfl (lv_at hl 0 rfl) ?_
  obtain ⟨hg, hv⟩ := hv
  refine gk_callVv (As := []) (rest := []) (b := ad 0) ⟨hx, hb, hml, hown, hts⟩ (h_PT_makePlan _ σ0 τ0  hg) (gk_cwV 0 hts t_w200 rfl rfl rfl (hts _ t_w197) (hts _ t_w198) (hts _ t_w199) (hts _ t_w5) (by decide +kernel) ⟨Nat.le_of_ble_eq_true rfl, Nat.le_of_ble_eq_true rfl⟩) hK hP hD hS (va_recv hK hP (ci := 6) (q0 := 0) rfl rfl) rfl hl.1 rfl (lv_room (Nat.le_of_ble_eq_true rfl)) d_PT_assign_1 ⟨Nat.zero_le _, Nat.zero_le _⟩ ?_
  intro s1 t1 H locs hw hP hD hS
  replace hv := hv s1 t1 hw
  refine lv_aload_n hx hb d_PT_assign_4 rfl (lv_at hl 0 rfl) ?_
  refine va_get (D := D) (ci := 6) (v := .ref (ad 22)) (C := R_PT) (T := F_PT) (N := 6) hx hb hts iw_PT hown hK hP 0 rfl rfl 5 (by decide) (hts _ t_w23) (fun _ h9 => h9) rfl d_PT_assign_5 ?_
  refine va_get (D := D) (ci := 2) (v := .int (s1 22 2)) (C := R_Plan) (T := F_Plan) (N := 9) hx hb hts iw_Plan hown hK hP 22 rfl rfl 2 (by decide) (hts _ t_w201) (fun _ h9 => h9) rfl d_PT_assign_8 ?_
  refine lv_if_ne (tgt := 18) hx hb d_PT_assign_11 (by decide) (fun hc => ?_) (fun hc => ?_)
  · replace hv := hv.1 hc
    refine lv_aload_n hx hb d_PT_assign_18 rfl (lv_at hl 0 rfl) ?_
    refine va_get (D := D) (ci := 6) (v := .ref (ad 22)) (C := R_PT) (T := F_PT) (N := 6) hx hb hts iw_PT hown hK hP 0 rfl rfl 5 (by decide) (hts _ t_w23) (fun _ h9 => h9) rfl d_PT_assign_19 ?_
    refine va_get (D := D) (ci := 2) (v := .int (s1 22 3)) (C := R_Plan) (T := F_Plan) (N := 9) hx hb hts iw_Plan hown hK hP 22 rfl rfl 3 (by decide) (hts _ t_w202) (fun _ h9 => h9) rfl d_PT_assign_22 ?_
    exact gk_iret hx hb hr hlocks hK hP hD hS hv d_PT_assign_25
  · replace hv := hv.2 hc
    refine lv_iconst (v := (-1)) hx hb d_PT_assign_14 (by decide) ?_
    refine lv_goto (tgt := 25) hx hb d_PT_assign_15 (by decide) ?_
    exact gk_iret hx hb hr hlocks hK hP hD hS hv d_PT_assign_25
theorem d_PT_isJob_0 : decode b_PT_isJob 0 = .ok (.iload_n 1, 1) := by decide +kernel
theorem d_PT_isJob_1 : decode b_PT_isJob 1 = .ok (.iconst 0, 1) := by decide +kernel
theorem d_PT_isJob_2 : decode b_PT_isJob 2 = .ok (.aload_n 0, 1) := by decide +kernel
theorem d_PT_isJob_3 : decode b_PT_isJob 3 = .ok (.getfield 19, 3) := by decide +kernel
theorem d_PT_isJob_6 : decode b_PT_isJob 6 = .ok (.getfield 102, 3) := by decide +kernel
theorem d_PT_isJob_9 : decode b_PT_isJob 9 = .ok (.iconst 1, 1) := by decide +kernel
theorem d_PT_isJob_10 : decode b_PT_isJob 10 = .ok (.isub, 1) := by decide +kernel
theorem d_PT_isJob_11 : decode b_PT_isJob 11 = .ok (.invokestatic 86, 3) := by decide +kernel
theorem d_PT_isJob_14 : decode b_PT_isJob 14 = .ok (.ireturn, 1) := by decide +kernel
def s_PT_isJob_0 (P_PT_isWithin : MI → ML → Int32 → Int32 → Int32 → Prop) (Q_PT_isWithin : MI → ML → Int32 → Int32 → Int32 → Int32 → MI → ML → Prop) (σ : MI) (τ : ML) (a1 : Int32) (R : Int32 → MI → ML → Prop) : Prop :=
  P_PT_isWithin σ τ a1 0 ((σ 8 0) - 1) ∧ ∀ (r11 : Int32) (s11 : MI) (t11 : ML), Q_PT_isWithin σ τ a1 0 ((σ 8 0) - 1) r11 s11 t11 → ((r11 = (0 : Int32) ∨ r11 = (1 : Int32)) ∧ R r11 s11 t11)
set_option maxHeartbeats 4000000 in
set_option maxRecDepth 100000 in
theorem k_PT_isJob (l : Launch) (D : va_G) (ad : Nat → Nat) (ci cl : ClassId)
    (pre : MI → ML → Int32 → Prop) (post : MI → ML → Int32 → Int32 → MI → ML → Prop) (P_PT_isWithin : MI → ML → Int32 → Int32 → Int32 → Prop) (Q_PT_isWithin : MI → ML → Int32 → Int32 → Int32 → Int32 → MI → ML → Prop)
    (h_PT_isWithin : ∀ (sz : Nat) (σ : MI) (τ : ML) (b0 : Int32) (b1 : Int32) (b2 : Int32), P_PT_isWithin σ τ b0 b1 b2 → gMi l D (xw ad ci cl) (xt ci cl) (xa ad) y_PT_isWithin w_PT_isWithin rm_PT_isWithin [.int b0, .int b1, .int b2] sz σ τ (Q_PT_isWithin σ τ b0 b1 b2))
    (v0 : ∀ (σ0 : MI) (τ0 : ML) (a1 : Int32), pre σ0 τ0 a1 → s_PT_isJob_0 P_PT_isWithin Q_PT_isWithin σ0 τ0 a1 (post σ0 τ0 a1)) :
    ∀ (sz : Nat) (σ0 : MI) (τ0 : ML) (a1 : Int32), pre σ0 τ0 a1 → gMi l D (xw ad ci cl) (xt ci cl) (xa ad) y_PT_isJob w_PT_isJob rm_PT_isJob [.ref (ad 0), .int a1] sz σ0 τ0 (post σ0 τ0 a1) := by
  intro sz σ0 τ0 a1 hpre
  refine gk_ofWi (cc := b_PT_isJob) (maxL := 2) (ret := (some .boolean)) (by decide) rfl xa_ok (Nat.le_of_ble_eq_true rfl) ?_
  intro p e s m below meth c ls hx hb hr hlocks hml hown hts hK hP hD hS hl
  have hl : lv_has ls 2 [(0, .ref (ad 0)), (1, .int a1)] := hl
  have hown : s.vm.findClass R_PT = some m.cls := hown
  have hv := v0 σ0 τ0 a1 hpre
  unfold s_PT_isJob_0 at hv
  refine lv_iload_n hx hb d_PT_isJob_0 rfl (lv_at hl 1 rfl) ?_
  refine lv_iconst (v := 0) hx hb d_PT_isJob_1 (by decide) ?_
  refine lv_aload_n hx hb d_PT_isJob_2 rfl (lv_at hl 0 rfl) ?_
  refine va_get (D := D) (ci := 6) (v := .ref (ad 8)) (C := R_PT) (T := F_PT) (N := 6) hx hb hts iw_PT hown hK hP 0 rfl rfl 1 (by decide) (hts _ t_w45) (fun _ h9 => h9) rfl d_PT_isJob_3 ?_
  refine va_get (D := D) (ci := 0) (v := .int (σ0 8 0)) (C := R_Jobs) (T := F_Jobs) (N := 7) hx hb hts iw_Jobs hown hK hP 8 rfl rfl 0 (by decide) (hts _ t_w46) (fun _ h9 => h9) rfl d_PT_isJob_6 ?_
  refine lv_iconst (v := 1) hx hb d_PT_isJob_9 (by decide) ?_
  refine lv_isub hx hb d_PT_isJob_10 ?_
  obtain ⟨hg, hv⟩ := hv
  refine gk_callSi (As := [.int a1, .int 0, .int ((σ0 8 0) - 1)]) (rest := []) ⟨hx, hb, hml, hown, hts⟩ (h_PT_isWithin _ σ0 τ0 a1 0 ((σ0 8 0) - 1) hg) (gk_cwS 3 hts t_w6 rfl rfl rfl (hts _ t_w3) (hts _ t_w4) (hts _ t_w5) (by decide +kernel) ⟨Nat.le_of_ble_eq_true rfl, Nat.le_of_ble_eq_true rfl⟩) hK hP hD hS rfl hl.1 rfl (lv_room (Nat.le_of_ble_eq_true rfl)) d_PT_isJob_11 ⟨Nat.zero_le _, Nat.zero_le _⟩ ?_
  intro r11 s11 t11 H locs hw hP hD hS
  replace hv := hv r11 s11 t11 hw
  obtain ⟨hz, hv⟩ := hv
  exact gk_zret hx hb hr hlocks (gk_nz hz) hK hP hD hS hv d_PT_isJob_14
theorem d_PT_whyNobody_0 : decode b_PT_whyNobody 0 = .ok (.aload_n 0, 1) := by decide +kernel
theorem d_PT_whyNobody_1 : decode b_PT_whyNobody 1 = .ok (.getfield 47, 3) := by decide +kernel
theorem d_PT_whyNobody_4 : decode b_PT_whyNobody 4 = .ok (.getfield 141, 3) := by decide +kernel
theorem d_PT_whyNobody_7 : decode b_PT_whyNobody 7 = .ok (.iload_n 1, 1) := by decide +kernel
theorem d_PT_whyNobody_8 : decode b_PT_whyNobody 8 = .ok (.iaload, 1) := by decide +kernel
theorem d_PT_whyNobody_9 : decode b_PT_whyNobody 9 = .ok (.iconst (-1), 1) := by decide +kernel
theorem d_PT_whyNobody_10 : decode b_PT_whyNobody 10 = .ok (.if_icmp .eq 5, 3) := by decide +kernel
theorem d_PT_whyNobody_13 : decode b_PT_whyNobody 13 = .ok (.iconst 0, 1) := by decide +kernel
theorem d_PT_whyNobody_14 : decode b_PT_whyNobody 14 = .ok (.ireturn, 1) := by decide +kernel
theorem d_PT_whyNobody_15 : decode b_PT_whyNobody 15 = .ok (.iconst 1, 1) := by decide +kernel
theorem d_PT_whyNobody_16 : decode b_PT_whyNobody 16 = .ok (.istore_n 2, 1) := by decide +kernel
theorem d_PT_whyNobody_17 : decode b_PT_whyNobody 17 = .ok (.iconst 0, 1) := by decide +kernel
theorem d_PT_whyNobody_18 : decode b_PT_whyNobody 18 = .ok (.istore_n 3, 1) := by decide +kernel
theorem d_PT_whyNobody_19 : decode b_PT_whyNobody 19 = .ok (.iload_n 3, 1) := by decide +kernel
theorem d_PT_whyNobody_20 : decode b_PT_whyNobody 20 = .ok (.aload_n 0, 1) := by decide +kernel
theorem d_PT_whyNobody_21 : decode b_PT_whyNobody 21 = .ok (.getfield 10, 3) := by decide +kernel
theorem d_PT_whyNobody_24 : decode b_PT_whyNobody 24 = .ok (.getfield 69, 3) := by decide +kernel
theorem d_PT_whyNobody_27 : decode b_PT_whyNobody 27 = .ok (.if_icmp .ge 75, 3) := by decide +kernel
theorem d_PT_whyNobody_30 : decode b_PT_whyNobody 30 = .ok (.aload_n 0, 1) := by decide +kernel
theorem d_PT_whyNobody_31 : decode b_PT_whyNobody 31 = .ok (.getfield 47, 3) := by decide +kernel
theorem d_PT_whyNobody_34 : decode b_PT_whyNobody 34 = .ok (.iload_n 3, 1) := by decide +kernel
theorem d_PT_whyNobody_35 : decode b_PT_whyNobody 35 = .ok (.invokevirtual 216, 3) := by decide +kernel
theorem d_PT_whyNobody_38 : decode b_PT_whyNobody 38 = .ok (.ifCond .ne 58, 3) := by decide +kernel
theorem d_PT_whyNobody_41 : decode b_PT_whyNobody 41 = .ok (.aload_n 0, 1) := by decide +kernel
theorem d_PT_whyNobody_42 : decode b_PT_whyNobody 42 = .ok (.getfield 10, 3) := by decide +kernel
theorem d_PT_whyNobody_45 : decode b_PT_whyNobody 45 = .ok (.getfield 219, 3) := by decide +kernel
theorem d_PT_whyNobody_48 : decode b_PT_whyNobody 48 = .ok (.iload_n 3, 1) := by decide +kernel
theorem d_PT_whyNobody_49 : decode b_PT_whyNobody 49 = .ok (.iaload, 1) := by decide +kernel
theorem d_PT_whyNobody_50 : decode b_PT_whyNobody 50 = .ok (.aload_n 0, 1) := by decide +kernel
theorem d_PT_whyNobody_51 : decode b_PT_whyNobody 51 = .ok (.getfield 19, 3) := by decide +kernel
theorem d_PT_whyNobody_54 : decode b_PT_whyNobody 54 = .ok (.getfield 222, 3) := by decide +kernel
theorem d_PT_whyNobody_57 : decode b_PT_whyNobody 57 = .ok (.iload_n 1, 1) := by decide +kernel
theorem d_PT_whyNobody_58 : decode b_PT_whyNobody 58 = .ok (.iaload, 1) := by decide +kernel
theorem d_PT_whyNobody_59 : decode b_PT_whyNobody 59 = .ok (.if_icmp .ge 6, 3) := by decide +kernel
theorem d_PT_whyNobody_62 : decode b_PT_whyNobody 62 = .ok (.goto 34, 3) := by decide +kernel
theorem d_PT_whyNobody_65 : decode b_PT_whyNobody 65 = .ok (.aload_n 0, 1) := by decide +kernel
theorem d_PT_whyNobody_66 : decode b_PT_whyNobody 66 = .ok (.getfield 40, 3) := by decide +kernel
theorem d_PT_whyNobody_69 : decode b_PT_whyNobody 69 = .ok (.aload_n 0, 1) := by decide +kernel
theorem d_PT_whyNobody_70 : decode b_PT_whyNobody 70 = .ok (.getfield 10, 3) := by decide +kernel
theorem d_PT_whyNobody_73 : decode b_PT_whyNobody 73 = .ok (.aload_n 0, 1) := by decide +kernel
theorem d_PT_whyNobody_74 : decode b_PT_whyNobody 74 = .ok (.getfield 19, 3) := by decide +kernel
theorem d_PT_whyNobody_77 : decode b_PT_whyNobody 77 = .ok (.aload_n 0, 1) := by decide +kernel
theorem d_PT_whyNobody_78 : decode b_PT_whyNobody 78 = .ok (.getfield 33, 3) := by decide +kernel
theorem d_PT_whyNobody_81 : decode b_PT_whyNobody 81 = .ok (.iload_n 3, 1) := by decide +kernel
theorem d_PT_whyNobody_82 : decode b_PT_whyNobody 82 = .ok (.iconst 1, 1) := by decide +kernel
theorem d_PT_whyNobody_83 : decode b_PT_whyNobody 83 = .ok (.iload_n 1, 1) := by decide +kernel
theorem d_PT_whyNobody_84 : decode b_PT_whyNobody 84 = .ok (.ishl, 1) := by decide +kernel
theorem d_PT_whyNobody_85 : decode b_PT_whyNobody 85 = .ok (.invokevirtual 223, 3) := by decide +kernel
theorem d_PT_whyNobody_88 : decode b_PT_whyNobody 88 = .ok (.iconst (-1), 1) := by decide +kernel
theorem d_PT_whyNobody_89 : decode b_PT_whyNobody 89 = .ok (.if_icmp .eq 5, 3) := by decide +kernel
theorem d_PT_whyNobody_92 : decode b_PT_whyNobody 92 = .ok (.iconst 3, 1) := by decide +kernel
theorem d_PT_whyNobody_93 : decode b_PT_whyNobody 93 = .ok (.ireturn, 1) := by decide +kernel
theorem d_PT_whyNobody_94 : decode b_PT_whyNobody 94 = .ok (.iconst 2, 1) := by decide +kernel
theorem d_PT_whyNobody_95 : decode b_PT_whyNobody 95 = .ok (.istore_n 2, 1) := by decide +kernel
theorem d_PT_whyNobody_96 : decode b_PT_whyNobody 96 = .ok (.iinc 3 1, 3) := by decide +kernel
theorem d_PT_whyNobody_99 : decode b_PT_whyNobody 99 = .ok (.goto (-80), 3) := by decide +kernel
theorem d_PT_whyNobody_102 : decode b_PT_whyNobody 102 = .ok (.iload_n 2, 1) := by decide +kernel
theorem d_PT_whyNobody_103 : decode b_PT_whyNobody 103 = .ok (.ireturn, 1) := by decide +kernel
def s_PT_whyNobody_0 (P_Plan_isBarred : MI → ML → Int32 → Prop) (Q_Plan_isBarred : MI → ML → Int32 → Int32 → MI → ML → Prop) (P_Planner_travelOf : MI → ML → Int32 → Int32 → Prop) (Q_Planner_travelOf : MI → ML → Int32 → Int32 → Int32 → MI → ML → Prop) (σ : MI) (τ : ML) (a1 : Int32) (K19 : Int32 → Int32 → Int32 → MI → ML → Prop) (R : Int32 → MI → ML → Prop) : Prop :=
  vp_in a1 7 ∧ (((σ 23 (Int32.toNatClampNeg a1)) = ((-1)) →
  (K19 a1 1 0 σ τ)) ∧
  (¬ (σ 23 (Int32.toNatClampNeg a1)) = ((-1)) →
  (R 0 σ τ)))
def s_PT_whyNobody_19 (P_Plan_isBarred : MI → ML → Int32 → Prop) (Q_Plan_isBarred : MI → ML → Int32 → Int32 → MI → ML → Prop) (P_Planner_travelOf : MI → ML → Int32 → Int32 → Prop) (Q_Planner_travelOf : MI → ML → Int32 → Int32 → Int32 → MI → ML → Prop) (σ : MI) (τ : ML) (x1 : Int32) (x2 : Int32) (x3 : Int32) (K19 : Int32 → Int32 → Int32 → MI → ML → Prop) (R : Int32 → MI → ML → Prop) : Prop :=
  ((σ 1 0) ≤ x3 →
  (R x2 σ τ)) ∧
  (¬ (σ 1 0) ≤ x3 →
  (P_Plan_isBarred σ τ x3 ∧ ∀ (r35 : Int32) (s35 : MI) (t35 : ML), Q_Plan_isBarred σ τ x3 r35 s35 t35 → ((¬ r35 = 0 →
    (∀ y96 : Int32, y96 = x3 + 1 → (K19 x1 x2 y96 s35 t35))) ∧
    (r35 = 0 →
    (vp_in x3 4 ∧ (vp_in x1 7 ∧ (((s35 9 (Int32.toNatClampNeg x1)) ≤ (s35 2 (Int32.toNatClampNeg x3)) →
      (P_Planner_travelOf s35 t35 x3 (1 <<< (x1 &&& 31)) ∧ ∀ (r85 : Int32) (s85 : MI) (t85 : ML), Q_Planner_travelOf s35 t35 x3 (1 <<< (x1 &&& 31)) r85 s85 t85 → ((r85 = ((-1)) →
        (∀ y96 : Int32, y96 = x3 + 1 → (K19 x1 2 y96 s85 t85))) ∧
        (¬ r85 = ((-1)) →
        (R 3 s85 t85))))) ∧
      (¬ (s35 9 (Int32.toNatClampNeg x1)) ≤ (s35 2 (Int32.toNatClampNeg x3)) →
      (∀ y96 : Int32, y96 = x3 + 1 → (K19 x1 x2 y96 s35 t35))))))))))
set_option maxHeartbeats 4000000 in
set_option maxRecDepth 100000 in
theorem k_PT_whyNobody (l : Launch) (D : va_G) (ad : Nat → Nat) (ci cl : ClassId)
    (pre : MI → ML → Int32 → Prop) (post : MI → ML → Int32 → Int32 → MI → ML → Prop) (P_Plan_isBarred : MI → ML → Int32 → Prop) (Q_Plan_isBarred : MI → ML → Int32 → Int32 → MI → ML → Prop) (P_Planner_travelOf : MI → ML → Int32 → Int32 → Prop) (Q_Planner_travelOf : MI → ML → Int32 → Int32 → Int32 → MI → ML → Prop)
    (h_Plan_isBarred : ∀ (sz : Nat) (σ : MI) (τ : ML) (b0 : Int32), P_Plan_isBarred σ τ b0 → gMi l D (xw ad ci cl) (xt ci cl) (xa ad) y_Plan_isBarred w_Plan_isBarred rm_Plan_isBarred [.ref (ad 22), .int b0] sz σ τ (Q_Plan_isBarred σ τ b0))
    (h_Planner_travelOf : ∀ (sz : Nat) (σ : MI) (τ : ML) (b0 : Int32) (b1 : Int32), P_Planner_travelOf σ τ b0 b1 → gMi l D (xw ad ci cl) (xt ci cl) (xa ad) y_Planner_travelOf w_Planner_travelOf rm_Planner_travelOf [.ref (ad 19), .ref (ad 1), .ref (ad 8), .ref (ad 17), .int b0, .int b1] sz σ τ (Q_Planner_travelOf σ τ b0 b1))
    (I19 : MI → ML → Int32 → Int32 → Int32 → Int32 → MI → ML → Prop) (m19 : MI → ML → Int32 → Int32 → Int32 → Int32 → MI → ML → Nat)
    (v0 : ∀ (σ0 : MI) (τ0 : ML) (a1 : Int32), pre σ0 τ0 a1 → s_PT_whyNobody_0 P_Plan_isBarred Q_Plan_isBarred P_Planner_travelOf Q_Planner_travelOf σ0 τ0 a1 (fun z0 z1 z2 σ9 τ9 => I19 σ0 τ0 a1 z0 z1 z2 σ9 τ9) (post σ0 τ0 a1))
    (v19 : ∀ (σ0 : MI) (τ0 : ML) (a1 : Int32) (x1 : Int32) (x2 : Int32) (x3 : Int32) (σ : MI) (τ : ML), I19 σ0 τ0 a1 x1 x2 x3 σ τ → s_PT_whyNobody_19 P_Plan_isBarred Q_Plan_isBarred P_Planner_travelOf Q_Planner_travelOf σ τ x1 x2 x3 (fun z0 z1 z2 σ9 τ9 => I19 σ0 τ0 a1 z0 z1 z2 σ9 τ9 ∧ m19 σ0 τ0 a1 z0 z1 z2 σ9 τ9 < m19 σ0 τ0 a1 x1 x2 x3 σ τ) (post σ0 τ0 a1)) :
    ∀ (sz : Nat) (σ0 : MI) (τ0 : ML) (a1 : Int32), pre σ0 τ0 a1 → gMi l D (xw ad ci cl) (xt ci cl) (xa ad) y_PT_whyNobody w_PT_whyNobody rm_PT_whyNobody [.ref (ad 0), .int a1] sz σ0 τ0 (post σ0 τ0 a1) := by
  intro sz σ0 τ0 a1 hpre
  refine gk_ofWi (cc := b_PT_whyNobody) (maxL := 4) (ret := (some .int)) (by decide) rfl xa_ok (Nat.le_of_ble_eq_true rfl) ?_
  intro p e s m below meth c ls hx hb hr hlocks hml hown hts hK hP hD hS hl
  have hl : lv_has ls 4 [(0, .ref (ad 0)), (1, .int a1)] := hl
  have hown : s.vm.findClass R_PT = some m.cls := hown
  have hL : ∀ n : Nat, (∀ (x1 : Int32) (x2 : Int32) (x3 : Int32) (σ : MI) (τ : ML) (H : Heap) (locs : List Loc) (ls : Array Slot), m19 σ0 τ0 a1 x1 x2 x3 σ τ < n → I19 σ0 τ0 a1 x1 x2 x3 σ τ → va_P D classes ((xw ad ci cl) σ τ) H → va_D (gA (xa ad) s.heap.size) ((xw ad ci cl) σ τ) → va_S (gA (xa ad) s.heap.size) s.heap H locs → lv_has ls 4 [(0, .ref (ad 0)), (1, .int x1), (2, .int x2), (3, .int x3)] → W p l e rm_PT_whyNobody s m [.ref (ad 0), .int a1].toArray below meth c H locs 0 0 (gQi D (xw ad ci cl) (xt ci cl) (xa ad) below [.ref (ad 0), .int a1] s (post σ0 τ0 a1)) (F0 m 19 ls [])) := by
    intro n
    induction n with
    | zero => exact fun _ _ _ _ _ _ _ _ hn => absurd hn (Nat.not_lt_zero _)
    | succ n ih =>
      · intro x1 x2 x3 σ τ H locs ls hn hI hP hD hS hl
        have hv := v19 σ0 τ0 a1 x1 x2 x3 σ τ hI
        unfold s_PT_whyNobody_19 at hv
        refine lv_iload_n hx hb d_PT_whyNobody_19 rfl (lv_at hl 3 rfl) ?_
        refine lv_aload_n hx hb d_PT_whyNobody_20 rfl (lv_at hl 0 rfl) ?_
        refine va_get (D := D) (ci := 6) (v := .ref (ad 1)) (C := R_PT) (T := F_PT) (N := 6) hx hb hts iw_PT hown hK hP 0 rfl rfl 0 (by decide) (hts _ t_w21) (fun _ h9 => h9) rfl d_PT_whyNobody_21 ?_
        refine va_get (D := D) (ci := 1) (v := .int (σ 1 0)) (C := R_People) (T := F_People) (N := 7) hx hb hts iw_People hown hK hP 1 rfl rfl 0 (by decide) (hts _ t_w22) (fun _ h9 => h9) rfl d_PT_whyNobody_24 ?_
        refine lv_icmp_ge (tgt := 102) hx hb d_PT_whyNobody_27 (by decide) (fun hc => ?_) (fun hc => ?_)
        · replace hv := hv.1 hc
          refine lv_iload_n hx hb d_PT_whyNobody_102 rfl (lv_at hl 2 rfl) ?_
          exact gk_iret hx hb hr hlocks hK hP hD hS hv d_PT_whyNobody_103
        · replace hv := hv.2 hc
          refine lv_aload_n hx hb d_PT_whyNobody_30 rfl (lv_at hl 0 rfl) ?_
          refine va_get (D := D) (ci := 6) (v := .ref (ad 22)) (C := R_PT) (T := F_PT) (N := 6) hx hb hts iw_PT hown hK hP 0 rfl rfl 5 (by decide) (hts _ t_w23) (fun _ h9 => h9) rfl d_PT_whyNobody_31 ?_
          refine lv_iload_n hx hb d_PT_whyNobody_34 rfl (lv_at hl 3 rfl) ?_
          obtain ⟨hg, hv⟩ := hv
          refine gk_callVi (As := [.int x3]) (rest := []) (b := ad 22) ⟨hx, hb, hml, hown, hts⟩ (h_Plan_isBarred _ σ τ x3 hg) (gk_cwV 1 hts t_w124 rfl rfl rfl (hts _ t_w204) (hts _ t_w121) (hts _ t_w122) (hts _ t_w123) (by decide +kernel) ⟨Nat.le_of_ble_eq_true rfl, Nat.le_of_ble_eq_true rfl⟩) hK hP hD hS (va_recv hK hP (ci := 2) (q0 := 22) rfl rfl) rfl hl.1 rfl (lv_room (Nat.le_of_ble_eq_true rfl)) d_PT_whyNobody_35 ⟨Nat.zero_le _, Nat.zero_le _⟩ ?_
          intro r35 s35 t35 H locs hw hP hD hS
          replace hv := hv r35 s35 t35 hw
          refine lv_if_ne (tgt := 96) hx hb d_PT_whyNobody_38 (by decide) (fun hc => ?_) (fun hc => ?_)
          · replace hv := hv.1 hc
            obtain ⟨y96, ey96⟩ : ∃ z : Int32, z = x3 + 1 := ⟨_, rfl⟩
            replace hv := hv y96 ey96
            refine lv_iinc (v := y96) (lv' := [(3, .int y96), (0, .ref (ad 0)), (1, .int x1), (2, .int x2)]) hx hb d_PT_whyNobody_96 hl (k := 3) rfl (by rw [ey96]; rfl) (by decide) rfl (fun ls hl => ?_)
            refine lv_goto (tgt := 19) hx hb d_PT_whyNobody_99 (by decide) ?_
            obtain ⟨hI, hm⟩ := hv
            exact ih x1 x2 y96 s35 t35 _ _ _ (Nat.lt_of_lt_of_le hm (Nat.le_of_lt_succ hn)) hI hP hD hS (lv_sub hl [1, 2, 3, 0] rfl)
          · replace hv := hv.2 hc
            refine lv_aload_n hx hb d_PT_whyNobody_41 rfl (lv_at hl 0 rfl) ?_
            refine va_get (D := D) (ci := 6) (v := .ref (ad 1)) (C := R_PT) (T := F_PT) (N := 6) hx hb hts iw_PT hown hK hP 0 rfl rfl 0 (by decide) (hts _ t_w21) (fun _ h9 => h9) rfl d_PT_whyNobody_42 ?_
            refine va_get (D := D) (ci := 1) (v := .ref (ad 2)) (C := R_People) (T := F_People) (N := 7) hx hb hts iw_People hown hK hP 1 rfl rfl 1 (by decide) (hts _ t_w205) (fun _ h9 => h9) rfl d_PT_whyNobody_45 ?_
            refine lv_iload_n hx hb d_PT_whyNobody_48 rfl (lv_at hl 3 rfl) ?_
            obtain ⟨hi, hv⟩ := hv
            refine va_iald hx hb hK hP 2 0 rfl rfl hi d_PT_whyNobody_49 ?_
            refine lv_aload_n hx hb d_PT_whyNobody_50 rfl (lv_at hl 0 rfl) ?_
            refine va_get (D := D) (ci := 6) (v := .ref (ad 8)) (C := R_PT) (T := F_PT) (N := 6) hx hb hts iw_PT hown hK hP 0 rfl rfl 1 (by decide) (hts _ t_w45) (fun _ h9 => h9) rfl d_PT_whyNobody_51 ?_
            refine va_get (D := D) (ci := 0) (v := .ref (ad 9)) (C := R_Jobs) (T := F_Jobs) (N := 7) hx hb hts iw_Jobs hown hK hP 8 rfl rfl 1 (by decide) (hts _ t_w206) (fun _ h9 => h9) rfl d_PT_whyNobody_54 ?_
            refine lv_iload_n hx hb d_PT_whyNobody_57 rfl (lv_at hl 1 rfl) ?_
            obtain ⟨hi, hv⟩ := hv
            refine va_iald hx hb hK hP 9 0 rfl rfl hi d_PT_whyNobody_58 ?_
            refine lv_icmp_ge (tgt := 65) hx hb d_PT_whyNobody_59 (by decide) (fun hc => ?_) (fun hc => ?_)
            · replace hv := hv.1 hc
              refine lv_aload_n hx hb d_PT_whyNobody_65 rfl (lv_at hl 0 rfl) ?_
              refine va_get (D := D) (ci := 6) (v := .ref (ad 19)) (C := R_PT) (T := F_PT) (N := 6) hx hb hts iw_PT hown hK hP 0 rfl rfl 4 (by decide) (hts _ t_w184) (fun _ h9 => h9) rfl d_PT_whyNobody_66 ?_
              refine lv_aload_n hx hb d_PT_whyNobody_69 rfl (lv_at hl 0 rfl) ?_
              refine va_get (D := D) (ci := 6) (v := .ref (ad 1)) (C := R_PT) (T := F_PT) (N := 6) hx hb hts iw_PT hown hK hP 0 rfl rfl 0 (by decide) (hts _ t_w21) (fun _ h9 => h9) rfl d_PT_whyNobody_70 ?_
              refine lv_aload_n hx hb d_PT_whyNobody_73 rfl (lv_at hl 0 rfl) ?_
              refine va_get (D := D) (ci := 6) (v := .ref (ad 8)) (C := R_PT) (T := F_PT) (N := 6) hx hb hts iw_PT hown hK hP 0 rfl rfl 1 (by decide) (hts _ t_w45) (fun _ h9 => h9) rfl d_PT_whyNobody_74 ?_
              refine lv_aload_n hx hb d_PT_whyNobody_77 rfl (lv_at hl 0 rfl) ?_
              refine va_get (D := D) (ci := 6) (v := .ref (ad 17)) (C := R_PT) (T := F_PT) (N := 6) hx hb hts iw_PT hown hK hP 0 rfl rfl 3 (by decide) (hts _ t_w53) (fun _ h9 => h9) rfl d_PT_whyNobody_78 ?_
              refine lv_iload_n hx hb d_PT_whyNobody_81 rfl (lv_at hl 3 rfl) ?_
              refine lv_iconst (v := 1) hx hb d_PT_whyNobody_82 (by decide) ?_
              refine lv_iload_n hx hb d_PT_whyNobody_83 rfl (lv_at hl 1 rfl) ?_
              refine lv_ishl hx hb d_PT_whyNobody_84 ?_
              obtain ⟨hg, hv⟩ := hv
              refine gk_callVi (As := [.ref (ad 1), .ref (ad 8), .ref (ad 17), .int x3, .int (1 <<< (x1 &&& 31))]) (rest := []) (b := ad 19) ⟨hx, hb, hml, hown, hts⟩ (h_Planner_travelOf _ s35 t35 x3 (1 <<< (x1 &&& 31)) hg) (gk_cwV 5 hts t_w108 rfl rfl rfl (hts _ t_w207) (hts _ t_w106) (hts _ t_w107) (hts _ t_w75) (by decide +kernel) ⟨Nat.le_of_ble_eq_true rfl, Nat.le_of_ble_eq_true rfl⟩) hK hP hD hS (va_recv hK hP (ci := 3) (q0 := 19) rfl rfl) rfl hl.1 rfl (lv_room (Nat.le_of_ble_eq_true rfl)) d_PT_whyNobody_85 ⟨Nat.zero_le _, Nat.zero_le _⟩ ?_
              intro r85 s85 t85 H locs hw hP hD hS
              replace hv := hv r85 s85 t85 hw
              refine lv_iconst (v := (-1)) hx hb d_PT_whyNobody_88 (by decide) ?_
              refine lv_icmp_eq (tgt := 94) hx hb d_PT_whyNobody_89 (by decide) (fun hc => ?_) (fun hc => ?_)
              · replace hv := hv.1 hc
                refine lv_iconst (v := 2) hx hb d_PT_whyNobody_94 (by decide) ?_
                refine lv_istore_n (lv' := [(2, .int 2), (0, .ref (ad 0)), (1, .int x1), (3, .int x3)]) hx hb d_PT_whyNobody_95 rfl hl (by decide) rfl (fun ls hl => ?_)
                obtain ⟨y96, ey96⟩ : ∃ z : Int32, z = x3 + 1 := ⟨_, rfl⟩
                replace hv := hv y96 ey96
                refine lv_iinc (v := y96) (lv' := [(3, .int y96), (2, .int 2), (0, .ref (ad 0)), (1, .int x1)]) hx hb d_PT_whyNobody_96 hl (k := 3) rfl (by rw [ey96]; rfl) (by decide) rfl (fun ls hl => ?_)
                refine lv_goto (tgt := 19) hx hb d_PT_whyNobody_99 (by decide) ?_
                obtain ⟨hI, hm⟩ := hv
                exact ih x1 2 y96 s85 t85 _ _ _ (Nat.lt_of_lt_of_le hm (Nat.le_of_lt_succ hn)) hI hP hD hS (lv_sub hl [2, 3, 1, 0] rfl)
              · replace hv := hv.2 hc
                refine lv_iconst (v := 3) hx hb d_PT_whyNobody_92 (by decide) ?_
                exact gk_iret hx hb hr hlocks hK hP hD hS hv d_PT_whyNobody_93
            · replace hv := hv.2 hc
              refine lv_goto (tgt := 96) hx hb d_PT_whyNobody_62 (by decide) ?_
              obtain ⟨y96, ey96⟩ : ∃ z : Int32, z = x3 + 1 := ⟨_, rfl⟩
              replace hv := hv y96 ey96
              refine lv_iinc (v := y96) (lv' := [(3, .int y96), (0, .ref (ad 0)), (1, .int x1), (2, .int x2)]) hx hb d_PT_whyNobody_96 hl (k := 3) rfl (by rw [ey96]; rfl) (by decide) rfl (fun ls hl => ?_)
              refine lv_goto (tgt := 19) hx hb d_PT_whyNobody_99 (by decide) ?_
              obtain ⟨hI, hm⟩ := hv
              exact ih x1 x2 y96 s35 t35 _ _ _ (Nat.lt_of_lt_of_le hm (Nat.le_of_lt_succ hn)) hI hP hD hS (lv_sub hl [1, 2, 3, 0] rfl)
  have hv := v0 σ0 τ0 a1 hpre
  unfold s_PT_whyNobody_0 at hv
  refine lv_aload_n hx hb d_PT_whyNobody_0 rfl (lv_at hl 0 rfl) ?_
  refine va_get (D := D) (ci := 6) (v := .ref (ad 22)) (C := R_PT) (T := F_PT) (N := 6) hx hb hts iw_PT hown hK hP 0 rfl rfl 5 (by decide) (hts _ t_w23) (fun _ h9 => h9) rfl d_PT_whyNobody_1 ?_
  refine va_get (D := D) (ci := 2) (v := .ref (ad 23)) (C := R_Plan) (T := F_Plan) (N := 9) hx hb hts iw_Plan hown hK hP 22 rfl rfl 4 (by decide) (hts _ t_w203) (fun _ h9 => h9) rfl d_PT_whyNobody_4 ?_
  refine lv_iload_n hx hb d_PT_whyNobody_7 rfl (lv_at hl 1 rfl) ?_
  obtain ⟨hi, hv⟩ := hv
  refine va_iald hx hb hK hP 23 0 rfl rfl hi d_PT_whyNobody_8 ?_
  refine lv_iconst (v := (-1)) hx hb d_PT_whyNobody_9 (by decide) ?_
  refine lv_icmp_eq (tgt := 15) hx hb d_PT_whyNobody_10 (by decide) (fun hc => ?_) (fun hc => ?_)
  · replace hv := hv.1 hc
    refine lv_iconst (v := 1) hx hb d_PT_whyNobody_15 (by decide) ?_
    refine lv_istore_n (lv' := [(2, .int 1), (0, .ref (ad 0)), (1, .int a1)]) hx hb d_PT_whyNobody_16 rfl hl (by decide) rfl (fun ls hl => ?_)
    refine lv_iconst (v := 0) hx hb d_PT_whyNobody_17 (by decide) ?_
    refine lv_istore_n (lv' := [(3, .int 0), (2, .int 1), (0, .ref (ad 0)), (1, .int a1)]) hx hb d_PT_whyNobody_18 rfl hl (by decide) rfl (fun ls hl => ?_)
    exact (hL _) a1 1 0 σ0 τ0 _ _ _ (Nat.lt_succ_self _) hv hP hD hS (lv_sub hl [2, 3, 1, 0] rfl)
  · replace hv := hv.2 hc
    refine lv_iconst (v := 0) hx hb d_PT_whyNobody_13 (by decide) ?_
    exact gk_iret hx hb hr hlocks hK hP hD hS hv d_PT_whyNobody_14
theorem d_Jobs_minutesOf_0 : decode b_Jobs_minutesOf 0 = .ok (.aload_n 0, 1) := by decide +kernel
theorem d_Jobs_minutesOf_1 : decode b_Jobs_minutesOf 1 = .ok (.getfield 25, 3) := by decide +kernel
theorem d_Jobs_minutesOf_4 : decode b_Jobs_minutesOf 4 = .ok (.iload_n 1, 1) := by decide +kernel
theorem d_Jobs_minutesOf_5 : decode b_Jobs_minutesOf 5 = .ok (.iaload, 1) := by decide +kernel
theorem d_Jobs_minutesOf_6 : decode b_Jobs_minutesOf 6 = .ok (.aload_n 0, 1) := by decide +kernel
theorem d_Jobs_minutesOf_7 : decode b_Jobs_minutesOf 7 = .ok (.getfield 22, 3) := by decide +kernel
theorem d_Jobs_minutesOf_10 : decode b_Jobs_minutesOf 10 = .ok (.iload_n 1, 1) := by decide +kernel
theorem d_Jobs_minutesOf_11 : decode b_Jobs_minutesOf 11 = .ok (.iaload, 1) := by decide +kernel
theorem d_Jobs_minutesOf_12 : decode b_Jobs_minutesOf 12 = .ok (.isub, 1) := by decide +kernel
theorem d_Jobs_minutesOf_13 : decode b_Jobs_minutesOf 13 = .ok (.ireturn, 1) := by decide +kernel
def s_Jobs_minutesOf_0 (σ : MI) (τ : ML) (a1 : Int32) (R : Int32 → MI → ML → Prop) : Prop :=
  vp_in a1 7 ∧ (vp_in a1 7 ∧ (R ((σ 12 (Int32.toNatClampNeg a1)) - (σ 11 (Int32.toNatClampNeg a1))) σ τ))
set_option maxHeartbeats 4000000 in
set_option maxRecDepth 100000 in
theorem k_Jobs_minutesOf (l : Launch) (D : va_G) (ad : Nat → Nat) (ci cl : ClassId)
    (pre : MI → ML → Int32 → Prop) (post : MI → ML → Int32 → Int32 → MI → ML → Prop)
    (v0 : ∀ (σ0 : MI) (τ0 : ML) (a1 : Int32), pre σ0 τ0 a1 → s_Jobs_minutesOf_0 σ0 τ0 a1 (post σ0 τ0 a1)) :
    ∀ (sz : Nat) (σ0 : MI) (τ0 : ML) (a1 : Int32), pre σ0 τ0 a1 → gMi l D (xw ad ci cl) (xt ci cl) (xa ad) y_Jobs_minutesOf w_Jobs_minutesOf rm_Jobs_minutesOf [.ref (ad 8), .int a1] sz σ0 τ0 (post σ0 τ0 a1) := by
  intro sz σ0 τ0 a1 hpre
  refine gk_ofWi (cc := b_Jobs_minutesOf) (maxL := 2) (ret := (some .int)) (by decide) rfl xa_ok (Nat.le_of_ble_eq_true rfl) ?_
  intro p e s m below meth c ls hx hb hr hlocks hml hown hts hK hP hD hS hl
  have hl : lv_has ls 2 [(0, .ref (ad 8)), (1, .int a1)] := hl
  have hown : s.vm.findClass R_Jobs = some m.cls := hown
  have hv := v0 σ0 τ0 a1 hpre
  unfold s_Jobs_minutesOf_0 at hv
  refine lv_aload_n hx hb d_Jobs_minutesOf_0 rfl (lv_at hl 0 rfl) ?_
  refine va_get (D := D) (ci := 0) (v := .ref (ad 12)) (C := R_Jobs) (T := F_Jobs) (N := 7) hx hb hts iw_Jobs hown hK hP 8 rfl rfl 4 (by decide) (hts _ t_w43) (fun _ h9 => h9) rfl d_Jobs_minutesOf_1 ?_
  refine lv_iload_n hx hb d_Jobs_minutesOf_4 rfl (lv_at hl 1 rfl) ?_
  obtain ⟨hi, hv⟩ := hv
  refine va_iald hx hb hK hP 12 0 rfl rfl hi d_Jobs_minutesOf_5 ?_
  refine lv_aload_n hx hb d_Jobs_minutesOf_6 rfl (lv_at hl 0 rfl) ?_
  refine va_get (D := D) (ci := 0) (v := .ref (ad 11)) (C := R_Jobs) (T := F_Jobs) (N := 7) hx hb hts iw_Jobs hown hK hP 8 rfl rfl 3 (by decide) (hts _ t_w42) (fun _ h9 => h9) rfl d_Jobs_minutesOf_7 ?_
  refine lv_iload_n hx hb d_Jobs_minutesOf_10 rfl (lv_at hl 1 rfl) ?_
  obtain ⟨hi, hv⟩ := hv
  refine va_iald hx hb hK hP 11 0 rfl rfl hi d_Jobs_minutesOf_11 ?_
  refine lv_isub hx hb d_Jobs_minutesOf_12 ?_
  exact gk_iret hx hb hr hlocks hK hP hD hS hv d_Jobs_minutesOf_13
theorem d_Plan_keepDoers_0 : decode b_Plan_keepDoers 0 = .ok (.aload_n 0, 1) := by decide +kernel
theorem d_Plan_keepDoers_1 : decode b_Plan_keepDoers 1 = .ok (.getfield 25, 3) := by decide +kernel
theorem d_Plan_keepDoers_4 : decode b_Plan_keepDoers 4 = .ok (.iconst 0, 1) := by decide +kernel
theorem d_Plan_keepDoers_5 : decode b_Plan_keepDoers 5 = .ok (.aload_n 0, 1) := by decide +kernel
theorem d_Plan_keepDoers_6 : decode b_Plan_keepDoers 6 = .ok (.getfield 38, 3) := by decide +kernel
theorem d_Plan_keepDoers_9 : decode b_Plan_keepDoers 9 = .ok (.iconst 0, 1) := by decide +kernel
theorem d_Plan_keepDoers_10 : decode b_Plan_keepDoers 10 = .ok (.bipush 7, 2) := by decide +kernel
theorem d_Plan_keepDoers_12 : decode b_Plan_keepDoers 12 = .ok (.invokestatic 41, 3) := by decide +kernel
theorem d_Plan_keepDoers_15 : decode b_Plan_keepDoers 15 = .ok (.return_, 1) := by decide +kernel
def s_Plan_keepDoers_0 (σ : MI) (τ : ML) (R : MI → ML → Prop) : Prop :=
  ∀ s12 : MI, s12 = st1 σ 27 (va_cpy (σ 23) (σ 27) (Int32.toNatClampNeg 0) (Int32.toNatClampNeg 0) (Int32.toNatClampNeg 7)) → (R s12 τ)
set_option maxHeartbeats 4000000 in
set_option maxRecDepth 100000 in
theorem k_Plan_keepDoers (l : Launch) (D : va_G) (ad : Nat → Nat) (ci cl : ClassId)
    (pre : MI → ML → Prop) (post : MI → ML → MI → ML → Prop)
    (v0 : ∀ (σ0 : MI) (τ0 : ML), pre σ0 τ0 → s_Plan_keepDoers_0 σ0 τ0 (post σ0 τ0)) :
    ∀ (sz : Nat) (σ0 : MI) (τ0 : ML), pre σ0 τ0 → gMv l D (xw ad ci cl) (xt ci cl) (xa ad) y_Plan_keepDoers w_Plan_keepDoers rm_Plan_keepDoers [.ref (ad 22)] sz σ0 τ0 (post σ0 τ0) := by
  intro sz σ0 τ0 hpre
  refine gk_ofWv (cc := b_Plan_keepDoers) (maxL := 1) (ret := none) (by decide) rfl xa_ok (Nat.le_of_ble_eq_true rfl) ?_
  intro p e s m below meth c ls hx hb hr hlocks hml hown hts hK hP hD hS hl
  have hl : lv_has ls 1 [(0, .ref (ad 22))] := hl
  have hown : s.vm.findClass R_Plan = some m.cls := hown
  have hv := v0 σ0 τ0 hpre
  unfold s_Plan_keepDoers_0 at hv
  refine lv_aload_n hx hb d_Plan_keepDoers_0 rfl (lv_at hl 0 rfl) ?_
  refine va_get (D := D) (ci := 2) (v := .ref (ad 23)) (C := R_Plan) (T := F_Plan) (N := 9) hx hb hts iw_Plan hown hK hP 22 rfl rfl 4 (by decide) (hts _ t_w136) (fun _ h9 => h9) rfl d_Plan_keepDoers_1 ?_
  refine lv_iconst (v := 0) hx hb d_Plan_keepDoers_4 (by decide) ?_
  refine lv_aload_n hx hb d_Plan_keepDoers_5 rfl (lv_at hl 0 rfl) ?_
  refine va_get (D := D) (ci := 2) (v := .ref (ad 27)) (C := R_Plan) (T := F_Plan) (N := 9) hx hb hts iw_Plan hown hK hP 22 rfl rfl 8 (by decide) (hts _ t_w219) (fun _ h9 => h9) rfl d_Plan_keepDoers_6 ?_
  refine lv_iconst (v := 0) hx hb d_Plan_keepDoers_9 (by decide) ?_
  refine lv_bipush (v := 7) hx hb d_Plan_keepDoers_10 (by decide) ?_
  refine va_copyi hx hb (hml.trans hl.1.symm) hown (hts _ t_w220) (hts _ t_w221) (hts _ t_w222) (hts _ t_w223) hK hP hD hS 23 27 0 0 rfl rfl rfl rfl rfl (by decide) (by decide) (by decide) (by decide) (by decide) (fun _ _ => rfl) (Nat.le_of_ble_eq_true rfl) (by decide +kernel) d_Plan_keepDoers_12 (fun H locs hP hD hS => ?_)
  rw [xc_27] at hP hD
  obtain ⟨s12, es12⟩ : ∃ z : MI, z = st1 σ0 27 (va_cpy (σ0 23) (σ0 27) (Int32.toNatClampNeg 0) (Int32.toNatClampNeg 0) (Int32.toNatClampNeg 7)) := ⟨_, rfl⟩
  rw [← es12] at hP hD
  replace hv := hv s12 es12
  exact gk_vret hx hb hr hlocks hK hP hD hS hv d_Plan_keepDoers_15
theorem d_Jobs_move_0 : decode b_Jobs_move 0 = .ok (.aload_n 0, 1) := by decide +kernel
theorem d_Jobs_move_1 : decode b_Jobs_move 1 = .ok (.getfield 25, 3) := by decide +kernel
theorem d_Jobs_move_4 : decode b_Jobs_move 4 = .ok (.iload_n 1, 1) := by decide +kernel
theorem d_Jobs_move_5 : decode b_Jobs_move 5 = .ok (.iload_n 2, 1) := by decide +kernel
theorem d_Jobs_move_6 : decode b_Jobs_move 6 = .ok (.aload_n 0, 1) := by decide +kernel
theorem d_Jobs_move_7 : decode b_Jobs_move 7 = .ok (.iload_n 1, 1) := by decide +kernel
theorem d_Jobs_move_8 : decode b_Jobs_move 8 = .ok (.invokevirtual 34, 3) := by decide +kernel
theorem d_Jobs_move_11 : decode b_Jobs_move 11 = .ok (.iadd, 1) := by decide +kernel
theorem d_Jobs_move_12 : decode b_Jobs_move 12 = .ok (.iastore, 1) := by decide +kernel
theorem d_Jobs_move_13 : decode b_Jobs_move 13 = .ok (.aload_n 0, 1) := by decide +kernel
theorem d_Jobs_move_14 : decode b_Jobs_move 14 = .ok (.getfield 22, 3) := by decide +kernel
theorem d_Jobs_move_17 : decode b_Jobs_move 17 = .ok (.iload_n 1, 1) := by decide +kernel
theorem d_Jobs_move_18 : decode b_Jobs_move 18 = .ok (.iload_n 2, 1) := by decide +kernel
theorem d_Jobs_move_19 : decode b_Jobs_move 19 = .ok (.iastore, 1) := by decide +kernel
theorem d_Jobs_move_20 : decode b_Jobs_move 20 = .ok (.return_, 1) := by decide +kernel
def s_Jobs_move_0 (P_Jobs_minutesOf : MI → ML → Int32 → Prop) (Q_Jobs_minutesOf : MI → ML → Int32 → Int32 → MI → ML → Prop) (σ : MI) (τ : ML) (a1 : Int32) (a2 : Int32) (R : MI → ML → Prop) : Prop :=
  P_Jobs_minutesOf σ τ a1 ∧ ∀ (r8 : Int32) (s8 : MI) (t8 : ML), Q_Jobs_minutesOf σ τ a1 r8 s8 t8 → (vp_in a1 7 ∧ (∀ s12 : MI, s12 = st2 s8 12 (Int32.toNatClampNeg a1) (a2 + r8) → (vp_in a1 7 ∧ (∀ s19 : MI, s19 = st2 s12 11 (Int32.toNatClampNeg a1) a2 → (R s19 t8)))))
set_option maxHeartbeats 4000000 in
set_option maxRecDepth 100000 in
theorem k_Jobs_move (l : Launch) (D : va_G) (ad : Nat → Nat) (ci cl : ClassId)
    (pre : MI → ML → Int32 → Int32 → Prop) (post : MI → ML → Int32 → Int32 → MI → ML → Prop) (P_Jobs_minutesOf : MI → ML → Int32 → Prop) (Q_Jobs_minutesOf : MI → ML → Int32 → Int32 → MI → ML → Prop)
    (h_Jobs_minutesOf : ∀ (sz : Nat) (σ : MI) (τ : ML) (b0 : Int32), P_Jobs_minutesOf σ τ b0 → gMi l D (xw ad ci cl) (xt ci cl) (xa ad) y_Jobs_minutesOf w_Jobs_minutesOf rm_Jobs_minutesOf [.ref (ad 8), .int b0] sz σ τ (Q_Jobs_minutesOf σ τ b0))
    (v0 : ∀ (σ0 : MI) (τ0 : ML) (a1 : Int32) (a2 : Int32), pre σ0 τ0 a1 a2 → s_Jobs_move_0 P_Jobs_minutesOf Q_Jobs_minutesOf σ0 τ0 a1 a2 (post σ0 τ0 a1 a2)) :
    ∀ (sz : Nat) (σ0 : MI) (τ0 : ML) (a1 : Int32) (a2 : Int32), pre σ0 τ0 a1 a2 → gMv l D (xw ad ci cl) (xt ci cl) (xa ad) y_Jobs_move w_Jobs_move rm_Jobs_move [.ref (ad 8), .int a1, .int a2] sz σ0 τ0 (post σ0 τ0 a1 a2) := by
  intro sz σ0 τ0 a1 a2 hpre
  refine gk_ofWv (cc := b_Jobs_move) (maxL := 3) (ret := none) (by decide) rfl xa_ok (Nat.le_of_ble_eq_true rfl) ?_
  intro p e s m below meth c ls hx hb hr hlocks hml hown hts hK hP hD hS hl
  have hl : lv_has ls 3 [(0, .ref (ad 8)), (1, .int a1), (2, .int a2)] := hl
  have hown : s.vm.findClass R_Jobs = some m.cls := hown
  have hv := v0 σ0 τ0 a1 a2 hpre
  unfold s_Jobs_move_0 at hv
  refine lv_aload_n hx hb d_Jobs_move_0 rfl (lv_at hl 0 rfl) ?_
  refine va_get (D := D) (ci := 0) (v := .ref (ad 12)) (C := R_Jobs) (T := F_Jobs) (N := 7) hx hb hts iw_Jobs hown hK hP 8 rfl rfl 4 (by decide) (hts _ t_w43) (fun _ h9 => h9) rfl d_Jobs_move_1 ?_
  refine lv_iload_n hx hb d_Jobs_move_4 rfl (lv_at hl 1 rfl) ?_
  refine lv_iload_n hx hb d_Jobs_move_5 rfl (lv_at hl 2 rfl) ?_
  refine lv_aload_n hx hb d_Jobs_move_6 rfl (lv_at hl 0 rfl) ?_
  refine lv_iload_n hx hb d_Jobs_move_7 rfl (lv_at hl 1 rfl) ?_
  obtain ⟨hg, hv⟩ := hv
  refine gk_callVi (As := [.int a1]) (rest := [.int a2, .int a1, .ref (ad 12)]) (b := ad 8) ⟨hx, hb, hml, hown, hts⟩ (h_Jobs_minutesOf _ σ0 τ0 a1 hg) (gk_cwV 1 hts t_w227 rfl rfl rfl (hts _ t_w224) (hts _ t_w225) (hts _ t_w226) (hts _ t_w50) (by decide +kernel) ⟨Nat.le_of_ble_eq_true rfl, Nat.le_of_ble_eq_true rfl⟩) hK hP hD hS (va_recv hK hP (ci := 0) (q0 := 8) rfl rfl) rfl hl.1 rfl (lv_room (Nat.le_of_ble_eq_true rfl)) d_Jobs_move_8 ⟨Nat.zero_le _, Nat.zero_le _⟩ ?_
  intro r8 s8 t8 H locs hw hP hD hS
  replace hv := hv r8 s8 t8 hw
  refine lv_iadd hx hb d_Jobs_move_11 ?_
  obtain ⟨hi, hv⟩ := hv
  refine va_iast hx hb hK hP hD hS 12 0 rfl rfl hi d_Jobs_move_12 (fun H locs hP hD hS => ?_)
  rw [xa_12] at hP hD
  obtain ⟨s12, es12⟩ : ∃ z : MI, z = st2 s8 12 (Int32.toNatClampNeg a1) (a2 + r8) := ⟨_, rfl⟩
  rw [← es12] at hP hD
  replace hv := hv s12 es12
  refine lv_aload_n hx hb d_Jobs_move_13 rfl (lv_at hl 0 rfl) ?_
  refine va_get (D := D) (ci := 0) (v := .ref (ad 11)) (C := R_Jobs) (T := F_Jobs) (N := 7) hx hb hts iw_Jobs hown hK hP 8 rfl rfl 3 (by decide) (hts _ t_w42) (fun _ h9 => h9) rfl d_Jobs_move_14 ?_
  refine lv_iload_n hx hb d_Jobs_move_17 rfl (lv_at hl 1 rfl) ?_
  refine lv_iload_n hx hb d_Jobs_move_18 rfl (lv_at hl 2 rfl) ?_
  obtain ⟨hi, hv⟩ := hv
  refine va_iast hx hb hK hP hD hS 11 0 rfl rfl hi d_Jobs_move_19 (fun H locs hP hD hS => ?_)
  rw [xa_11] at hP hD
  obtain ⟨s19, es19⟩ : ∃ z : MI, z = st2 s12 11 (Int32.toNatClampNeg a1) a2 := ⟨_, rfl⟩
  rw [← es19] at hP hD
  replace hv := hv s19 es19
  exact gk_vret hx hb hr hlocks hK hP hD hS hv d_Jobs_move_20
theorem d_Plan_otherDoers_0 : decode b_Plan_otherDoers 0 = .ok (.iconst 0, 1) := by decide +kernel
theorem d_Plan_otherDoers_1 : decode b_Plan_otherDoers 1 = .ok (.istore_n 2, 1) := by decide +kernel
theorem d_Plan_otherDoers_2 : decode b_Plan_otherDoers 2 = .ok (.iconst 0, 1) := by decide +kernel
theorem d_Plan_otherDoers_3 : decode b_Plan_otherDoers 3 = .ok (.istore_n 3, 1) := by decide +kernel
theorem d_Plan_otherDoers_4 : decode b_Plan_otherDoers 4 = .ok (.iload_n 3, 1) := by decide +kernel
theorem d_Plan_otherDoers_5 : decode b_Plan_otherDoers 5 = .ok (.iload_n 1, 1) := by decide +kernel
theorem d_Plan_otherDoers_6 : decode b_Plan_otherDoers 6 = .ok (.if_icmp .ge 27, 3) := by decide +kernel
theorem d_Plan_otherDoers_9 : decode b_Plan_otherDoers 9 = .ok (.aload_n 0, 1) := by decide +kernel
theorem d_Plan_otherDoers_10 : decode b_Plan_otherDoers 10 = .ok (.getfield 25, 3) := by decide +kernel
theorem d_Plan_otherDoers_13 : decode b_Plan_otherDoers 13 = .ok (.iload_n 3, 1) := by decide +kernel
theorem d_Plan_otherDoers_14 : decode b_Plan_otherDoers 14 = .ok (.iaload, 1) := by decide +kernel
theorem d_Plan_otherDoers_15 : decode b_Plan_otherDoers 15 = .ok (.aload_n 0, 1) := by decide +kernel
theorem d_Plan_otherDoers_16 : decode b_Plan_otherDoers 16 = .ok (.getfield 38, 3) := by decide +kernel
theorem d_Plan_otherDoers_19 : decode b_Plan_otherDoers 19 = .ok (.iload_n 3, 1) := by decide +kernel
theorem d_Plan_otherDoers_20 : decode b_Plan_otherDoers 20 = .ok (.iaload, 1) := by decide +kernel
theorem d_Plan_otherDoers_21 : decode b_Plan_otherDoers 21 = .ok (.if_icmp .eq 6, 3) := by decide +kernel
theorem d_Plan_otherDoers_24 : decode b_Plan_otherDoers 24 = .ok (.iinc 2 1, 3) := by decide +kernel
theorem d_Plan_otherDoers_27 : decode b_Plan_otherDoers 27 = .ok (.iinc 3 1, 3) := by decide +kernel
theorem d_Plan_otherDoers_30 : decode b_Plan_otherDoers 30 = .ok (.goto (-26), 3) := by decide +kernel
theorem d_Plan_otherDoers_33 : decode b_Plan_otherDoers 33 = .ok (.iload_n 2, 1) := by decide +kernel
theorem d_Plan_otherDoers_34 : decode b_Plan_otherDoers 34 = .ok (.ireturn, 1) := by decide +kernel
def s_Plan_otherDoers_0 (σ : MI) (τ : ML) (a1 : Int32) (K4 : Int32 → Int32 → Int32 → MI → ML → Prop) (R : Int32 → MI → ML → Prop) : Prop :=
  K4 a1 0 0 σ τ
def s_Plan_otherDoers_4 (σ : MI) (τ : ML) (x1 : Int32) (x2 : Int32) (x3 : Int32) (K4 : Int32 → Int32 → Int32 → MI → ML → Prop) (R : Int32 → MI → ML → Prop) : Prop :=
  (x1 ≤ x3 →
  (R x2 σ τ)) ∧
  (¬ x1 ≤ x3 →
  (vp_in x3 7 ∧ (vp_in x3 7 ∧ (((σ 23 (Int32.toNatClampNeg x3)) = (σ 27 (Int32.toNatClampNeg x3)) →
    (∀ y27 : Int32, y27 = x3 + 1 → (K4 x1 x2 y27 σ τ))) ∧
    (¬ (σ 23 (Int32.toNatClampNeg x3)) = (σ 27 (Int32.toNatClampNeg x3)) →
    (∀ y24 : Int32, y24 = x2 + 1 → (∀ y27 : Int32, y27 = x3 + 1 → (K4 x1 y24 y27 σ τ))))))))
set_option maxHeartbeats 4000000 in
set_option maxRecDepth 100000 in
theorem k_Plan_otherDoers (l : Launch) (D : va_G) (ad : Nat → Nat) (ci cl : ClassId)
    (pre : MI → ML → Int32 → Prop) (post : MI → ML → Int32 → Int32 → MI → ML → Prop)
    (I4 : MI → ML → Int32 → Int32 → Int32 → Int32 → MI → ML → Prop) (m4 : MI → ML → Int32 → Int32 → Int32 → Int32 → MI → ML → Nat)
    (v0 : ∀ (σ0 : MI) (τ0 : ML) (a1 : Int32), pre σ0 τ0 a1 → s_Plan_otherDoers_0 σ0 τ0 a1 (fun z0 z1 z2 σ9 τ9 => I4 σ0 τ0 a1 z0 z1 z2 σ9 τ9) (post σ0 τ0 a1))
    (v4 : ∀ (σ0 : MI) (τ0 : ML) (a1 : Int32) (x1 : Int32) (x2 : Int32) (x3 : Int32) (σ : MI) (τ : ML), I4 σ0 τ0 a1 x1 x2 x3 σ τ → s_Plan_otherDoers_4 σ τ x1 x2 x3 (fun z0 z1 z2 σ9 τ9 => I4 σ0 τ0 a1 z0 z1 z2 σ9 τ9 ∧ m4 σ0 τ0 a1 z0 z1 z2 σ9 τ9 < m4 σ0 τ0 a1 x1 x2 x3 σ τ) (post σ0 τ0 a1)) :
    ∀ (sz : Nat) (σ0 : MI) (τ0 : ML) (a1 : Int32), pre σ0 τ0 a1 → gMi l D (xw ad ci cl) (xt ci cl) (xa ad) y_Plan_otherDoers w_Plan_otherDoers rm_Plan_otherDoers [.ref (ad 22), .int a1] sz σ0 τ0 (post σ0 τ0 a1) := by
  intro sz σ0 τ0 a1 hpre
  refine gk_ofWi (cc := b_Plan_otherDoers) (maxL := 4) (ret := (some .int)) (by decide) rfl xa_ok (Nat.le_of_ble_eq_true rfl) ?_
  intro p e s m below meth c ls hx hb hr hlocks hml hown hts hK hP hD hS hl
  have hl : lv_has ls 4 [(0, .ref (ad 22)), (1, .int a1)] := hl
  have hown : s.vm.findClass R_Plan = some m.cls := hown
  have hL : ∀ n : Nat, (∀ (x1 : Int32) (x2 : Int32) (x3 : Int32) (σ : MI) (τ : ML) (H : Heap) (locs : List Loc) (ls : Array Slot), m4 σ0 τ0 a1 x1 x2 x3 σ τ < n → I4 σ0 τ0 a1 x1 x2 x3 σ τ → va_P D classes ((xw ad ci cl) σ τ) H → va_D (gA (xa ad) s.heap.size) ((xw ad ci cl) σ τ) → va_S (gA (xa ad) s.heap.size) s.heap H locs → lv_has ls 4 [(0, .ref (ad 22)), (1, .int x1), (2, .int x2), (3, .int x3)] → W p l e rm_Plan_otherDoers s m [.ref (ad 22), .int a1].toArray below meth c H locs 0 0 (gQi D (xw ad ci cl) (xt ci cl) (xa ad) below [.ref (ad 22), .int a1] s (post σ0 τ0 a1)) (F0 m 4 ls [])) := by
    intro n
    induction n with
    | zero => exact fun _ _ _ _ _ _ _ _ hn => absurd hn (Nat.not_lt_zero _)
    | succ n ih =>
      · intro x1 x2 x3 σ τ H locs ls hn hI hP hD hS hl
        have hv := v4 σ0 τ0 a1 x1 x2 x3 σ τ hI
        unfold s_Plan_otherDoers_4 at hv
        refine lv_iload_n hx hb d_Plan_otherDoers_4 rfl (lv_at hl 3 rfl) ?_
        refine lv_iload_n hx hb d_Plan_otherDoers_5 rfl (lv_at hl 1 rfl) ?_
        refine lv_icmp_ge (tgt := 33) hx hb d_Plan_otherDoers_6 (by decide) (fun hc => ?_) (fun hc => ?_)
        · replace hv := hv.1 hc
          refine lv_iload_n hx hb d_Plan_otherDoers_33 rfl (lv_at hl 2 rfl) ?_
          exact gk_iret hx hb hr hlocks hK hP hD hS hv d_Plan_otherDoers_34
        · replace hv := hv.2 hc
          refine lv_aload_n hx hb d_Plan_otherDoers_9 rfl (lv_at hl 0 rfl) ?_
          refine va_get (D := D) (ci := 2) (v := .ref (ad 23)) (C := R_Plan) (T := F_Plan) (N := 9) hx hb hts iw_Plan hown hK hP 22 rfl rfl 4 (by decide) (hts _ t_w136) (fun _ h9 => h9) rfl d_Plan_otherDoers_10 ?_
          refine lv_iload_n hx hb d_Plan_otherDoers_13 rfl (lv_at hl 3 rfl) ?_
          obtain ⟨hi, hv⟩ := hv
          refine va_iald hx hb hK hP 23 0 rfl rfl hi d_Plan_otherDoers_14 ?_
          refine lv_aload_n hx hb d_Plan_otherDoers_15 rfl (lv_at hl 0 rfl) ?_
          refine va_get (D := D) (ci := 2) (v := .ref (ad 27)) (C := R_Plan) (T := F_Plan) (N := 9) hx hb hts iw_Plan hown hK hP 22 rfl rfl 8 (by decide) (hts _ t_w219) (fun _ h9 => h9) rfl d_Plan_otherDoers_16 ?_
          refine lv_iload_n hx hb d_Plan_otherDoers_19 rfl (lv_at hl 3 rfl) ?_
          obtain ⟨hi, hv⟩ := hv
          refine va_iald hx hb hK hP 27 0 rfl rfl hi d_Plan_otherDoers_20 ?_
          refine lv_icmp_eq (tgt := 27) hx hb d_Plan_otherDoers_21 (by decide) (fun hc => ?_) (fun hc => ?_)
          · replace hv := hv.1 hc
            obtain ⟨y27, ey27⟩ : ∃ z : Int32, z = x3 + 1 := ⟨_, rfl⟩
            replace hv := hv y27 ey27
            refine lv_iinc (v := y27) (lv' := [(3, .int y27), (0, .ref (ad 22)), (1, .int x1), (2, .int x2)]) hx hb d_Plan_otherDoers_27 hl (k := 3) rfl (by rw [ey27]; rfl) (by decide) rfl (fun ls hl => ?_)
            refine lv_goto (tgt := 4) hx hb d_Plan_otherDoers_30 (by decide) ?_
            obtain ⟨hI, hm⟩ := hv
            exact ih x1 x2 y27 σ τ _ _ _ (Nat.lt_of_lt_of_le hm (Nat.le_of_lt_succ hn)) hI hP hD hS (lv_sub hl [1, 2, 3, 0] rfl)
          · replace hv := hv.2 hc
            obtain ⟨y24, ey24⟩ : ∃ z : Int32, z = x2 + 1 := ⟨_, rfl⟩
            replace hv := hv y24 ey24
            refine lv_iinc (v := y24) (lv' := [(2, .int y24), (0, .ref (ad 22)), (1, .int x1), (3, .int x3)]) hx hb d_Plan_otherDoers_24 hl (k := 2) rfl (by rw [ey24]; rfl) (by decide) rfl (fun ls hl => ?_)
            obtain ⟨y27, ey27⟩ : ∃ z : Int32, z = x3 + 1 := ⟨_, rfl⟩
            replace hv := hv y27 ey27
            refine lv_iinc (v := y27) (lv' := [(3, .int y27), (2, .int y24), (0, .ref (ad 22)), (1, .int x1)]) hx hb d_Plan_otherDoers_27 hl (k := 3) rfl (by rw [ey27]; rfl) (by decide) rfl (fun ls hl => ?_)
            refine lv_goto (tgt := 4) hx hb d_Plan_otherDoers_30 (by decide) ?_
            obtain ⟨hI, hm⟩ := hv
            exact ih x1 y24 y27 σ τ _ _ _ (Nat.lt_of_lt_of_le hm (Nat.le_of_lt_succ hn)) hI hP hD hS (lv_sub hl [2, 3, 1, 0] rfl)
  have hv := v0 σ0 τ0 a1 hpre
  unfold s_Plan_otherDoers_0 at hv
  refine lv_iconst (v := 0) hx hb d_Plan_otherDoers_0 (by decide) ?_
  refine lv_istore_n (lv' := [(2, .int 0), (0, .ref (ad 22)), (1, .int a1)]) hx hb d_Plan_otherDoers_1 rfl hl (by decide) rfl (fun ls hl => ?_)
  refine lv_iconst (v := 0) hx hb d_Plan_otherDoers_2 (by decide) ?_
  refine lv_istore_n (lv' := [(3, .int 0), (2, .int 0), (0, .ref (ad 22)), (1, .int a1)]) hx hb d_Plan_otherDoers_3 rfl hl (by decide) rfl (fun ls hl => ?_)
  exact (hL _) a1 0 0 σ0 τ0 _ _ _ (Nat.lt_succ_self _) hv hP hD hS (lv_sub hl [2, 3, 1, 0] rfl)
theorem d_PT_count_0 : decode b_PT_count 0 = .ok (.iload_n 1, 1) := by decide +kernel
theorem d_PT_count_1 : decode b_PT_count 1 = .ok (.bipush 10, 2) := by decide +kernel
theorem d_PT_count_3 : decode b_PT_count 3 = .ok (.if_icmp .lt 30, 3) := by decide +kernel
theorem d_PT_count_6 : decode b_PT_count 6 = .ok (.iload_n 1, 1) := by decide +kernel
theorem d_PT_count_7 : decode b_PT_count 7 = .ok (.bipush 10, 2) := by decide +kernel
theorem d_PT_count_9 : decode b_PT_count 9 = .ok (.isub, 1) := by decide +kernel
theorem d_PT_count_10 : decode b_PT_count 10 = .ok (.istore_n 2, 1) := by decide +kernel
theorem d_PT_count_11 : decode b_PT_count 11 = .ok (.aload_n 0, 1) := by decide +kernel
theorem d_PT_count_12 : decode b_PT_count 12 = .ok (.iload_n 2, 1) := by decide +kernel
theorem d_PT_count_13 : decode b_PT_count 13 = .ok (.invokevirtual 115, 3) := by decide +kernel
theorem d_PT_count_16 : decode b_PT_count 16 = .ok (.ifCond .eq 15, 3) := by decide +kernel
theorem d_PT_count_19 : decode b_PT_count 19 = .ok (.aload_n 0, 1) := by decide +kernel
theorem d_PT_count_20 : decode b_PT_count 20 = .ok (.getfield 10, 3) := by decide +kernel
theorem d_PT_count_23 : decode b_PT_count 23 = .ok (.getfield 191, 3) := by decide +kernel
theorem d_PT_count_26 : decode b_PT_count 26 = .ok (.iload_n 2, 1) := by decide +kernel
theorem d_PT_count_27 : decode b_PT_count 27 = .ok (.iaload, 1) := by decide +kernel
theorem d_PT_count_28 : decode b_PT_count 28 = .ok (.goto 4, 3) := by decide +kernel
theorem d_PT_count_31 : decode b_PT_count 31 = .ok (.iconst (-1), 1) := by decide +kernel
theorem d_PT_count_32 : decode b_PT_count 32 = .ok (.ireturn, 1) := by decide +kernel
theorem d_PT_count_33 : decode b_PT_count 33 = .ok (.iload_n 1, 1) := by decide +kernel
theorem d_PT_count_34 : decode b_PT_count 34 = .ok (.tableswitch 122 0 5 #[38, 46, 54, 62, 78, 100], 38) := by decide +kernel
theorem d_PT_count_72 : decode b_PT_count 72 = .ok (.aload_n 0, 1) := by decide +kernel
theorem d_PT_count_73 : decode b_PT_count 73 = .ok (.getfield 10, 3) := by decide +kernel
theorem d_PT_count_76 : decode b_PT_count 76 = .ok (.getfield 69, 3) := by decide +kernel
theorem d_PT_count_79 : decode b_PT_count 79 = .ok (.ireturn, 1) := by decide +kernel
theorem d_PT_count_80 : decode b_PT_count 80 = .ok (.aload_n 0, 1) := by decide +kernel
theorem d_PT_count_81 : decode b_PT_count 81 = .ok (.getfield 26, 3) := by decide +kernel
theorem d_PT_count_84 : decode b_PT_count 84 = .ok (.getfield 92, 3) := by decide +kernel
theorem d_PT_count_87 : decode b_PT_count 87 = .ok (.ireturn, 1) := by decide +kernel
theorem d_PT_count_88 : decode b_PT_count 88 = .ok (.aload_n 0, 1) := by decide +kernel
theorem d_PT_count_89 : decode b_PT_count 89 = .ok (.getfield 19, 3) := by decide +kernel
theorem d_PT_count_92 : decode b_PT_count 92 = .ok (.getfield 102, 3) := by decide +kernel
theorem d_PT_count_95 : decode b_PT_count 95 = .ok (.ireturn, 1) := by decide +kernel
theorem d_PT_count_96 : decode b_PT_count 96 = .ok (.aload_n 0, 1) := by decide +kernel
theorem d_PT_count_97 : decode b_PT_count 97 = .ok (.getfield 47, 3) := by decide +kernel
theorem d_PT_count_100 : decode b_PT_count 100 = .ok (.getfield 78, 3) := by decide +kernel
theorem d_PT_count_103 : decode b_PT_count 103 = .ok (.ifCond .eq 7, 3) := by decide +kernel
theorem d_PT_count_106 : decode b_PT_count 106 = .ok (.iconst 1, 1) := by decide +kernel
theorem d_PT_count_107 : decode b_PT_count 107 = .ok (.goto 4, 3) := by decide +kernel
theorem d_PT_count_110 : decode b_PT_count 110 = .ok (.iconst 0, 1) := by decide +kernel
theorem d_PT_count_111 : decode b_PT_count 111 = .ok (.ireturn, 1) := by decide +kernel
theorem d_PT_count_112 : decode b_PT_count 112 = .ok (.aload_n 0, 1) := by decide +kernel
theorem d_PT_count_113 : decode b_PT_count 113 = .ok (.getfield 47, 3) := by decide +kernel
theorem d_PT_count_116 : decode b_PT_count 116 = .ok (.getfield 78, 3) := by decide +kernel
theorem d_PT_count_119 : decode b_PT_count 119 = .ok (.ifCond .eq 13, 3) := by decide +kernel
theorem d_PT_count_122 : decode b_PT_count 122 = .ok (.aload_n 0, 1) := by decide +kernel
theorem d_PT_count_123 : decode b_PT_count 123 = .ok (.getfield 47, 3) := by decide +kernel
theorem d_PT_count_126 : decode b_PT_count 126 = .ok (.getfield 125, 3) := by decide +kernel
theorem d_PT_count_129 : decode b_PT_count 129 = .ok (.goto 4, 3) := by decide +kernel
theorem d_PT_count_132 : decode b_PT_count 132 = .ok (.iconst (-1), 1) := by decide +kernel
theorem d_PT_count_133 : decode b_PT_count 133 = .ok (.ireturn, 1) := by decide +kernel
theorem d_PT_count_134 : decode b_PT_count 134 = .ok (.aload_n 0, 1) := by decide +kernel
theorem d_PT_count_135 : decode b_PT_count 135 = .ok (.getfield 47, 3) := by decide +kernel
theorem d_PT_count_138 : decode b_PT_count 138 = .ok (.getfield 78, 3) := by decide +kernel
theorem d_PT_count_141 : decode b_PT_count 141 = .ok (.ifCond .eq 13, 3) := by decide +kernel
theorem d_PT_count_144 : decode b_PT_count 144 = .ok (.aload_n 0, 1) := by decide +kernel
theorem d_PT_count_145 : decode b_PT_count 145 = .ok (.getfield 47, 3) := by decide +kernel
theorem d_PT_count_148 : decode b_PT_count 148 = .ok (.getfield 194, 3) := by decide +kernel
theorem d_PT_count_151 : decode b_PT_count 151 = .ok (.goto 4, 3) := by decide +kernel
theorem d_PT_count_154 : decode b_PT_count 154 = .ok (.iconst (-1), 1) := by decide +kernel
theorem d_PT_count_155 : decode b_PT_count 155 = .ok (.ireturn, 1) := by decide +kernel
theorem d_PT_count_156 : decode b_PT_count 156 = .ok (.iconst (-1), 1) := by decide +kernel
theorem d_PT_count_157 : decode b_PT_count 157 = .ok (.ireturn, 1) := by decide +kernel
def s_PT_count_0 (P_PT_isPerson : MI → ML → Int32 → Prop) (Q_PT_isPerson : MI → ML → Int32 → Int32 → MI → ML → Prop) (σ : MI) (τ : ML) (a1 : Int32) (R : Int32 → MI → ML → Prop) : Prop :=
  (a1 < 10 →
  ((a1 = 0 →
    (R (σ 1 0) σ τ)) ∧ (¬ a1 = 0 →
    ((a1 = 1 →
    (R (σ 15 0) σ τ)) ∧ (¬ a1 = 1 →
    ((a1 = 2 →
    (R (σ 8 0) σ τ)) ∧ (¬ a1 = 2 →
    ((a1 = 3 →
    (((σ 22 0) = 0 →
      (R 0 σ τ)) ∧
      (¬ (σ 22 0) = 0 →
      (R 1 σ τ)))) ∧ (¬ a1 = 3 →
    ((a1 = 4 →
    (((σ 22 0) = 0 →
      (R ((-1)) σ τ)) ∧
      (¬ (σ 22 0) = 0 →
      (R (σ 22 2) σ τ)))) ∧ (¬ a1 = 4 →
    ((a1 = 5 →
    (((σ 22 0) = 0 →
      (R ((-1)) σ τ)) ∧
      (¬ (σ 22 0) = 0 →
      (R (σ 22 1) σ τ)))) ∧ (¬ a1 = 5 →
    (R ((-1)) σ τ)))))))))))))) ∧
  (¬ a1 < 10 →
  (∀ y10 : Int32, y10 = a1 - 10 → (P_PT_isPerson σ τ y10 ∧ ∀ (r13 : Int32) (s13 : MI) (t13 : ML), Q_PT_isPerson σ τ y10 r13 s13 t13 → ((r13 = 0 →
    (R ((-1)) s13 t13)) ∧
    (¬ r13 = 0 →
    (vp_in y10 4 ∧ (R (s13 7 (Int32.toNatClampNeg y10)) s13 t13)))))))
set_option maxHeartbeats 4000000 in
set_option maxRecDepth 100000 in
theorem k_PT_count (l : Launch) (D : va_G) (ad : Nat → Nat) (ci cl : ClassId)
    (pre : MI → ML → Int32 → Prop) (post : MI → ML → Int32 → Int32 → MI → ML → Prop) (P_PT_isPerson : MI → ML → Int32 → Prop) (Q_PT_isPerson : MI → ML → Int32 → Int32 → MI → ML → Prop)
    (h_PT_isPerson : ∀ (sz : Nat) (σ : MI) (τ : ML) (b0 : Int32), P_PT_isPerson σ τ b0 → gMi l D (xw ad ci cl) (xt ci cl) (xa ad) y_PT_isPerson w_PT_isPerson rm_PT_isPerson [.ref (ad 0), .int b0] sz σ τ (Q_PT_isPerson σ τ b0))
    (v0 : ∀ (σ0 : MI) (τ0 : ML) (a1 : Int32), pre σ0 τ0 a1 → s_PT_count_0 P_PT_isPerson Q_PT_isPerson σ0 τ0 a1 (post σ0 τ0 a1)) :
    ∀ (sz : Nat) (σ0 : MI) (τ0 : ML) (a1 : Int32), pre σ0 τ0 a1 → gMi l D (xw ad ci cl) (xt ci cl) (xa ad) y_PT_count w_PT_count rm_PT_count [.ref (ad 0), .int a1] sz σ0 τ0 (post σ0 τ0 a1) := by
  intro sz σ0 τ0 a1 hpre
  refine gk_ofWi (cc := b_PT_count) (maxL := 3) (ret := (some .int)) (by decide) rfl xa_ok (Nat.le_of_ble_eq_true rfl) ?_
  intro p e s m below meth c ls hx hb hr hlocks hml hown hts hK hP hD hS hl
  have hl : lv_has ls 3 [(0, .ref (ad 0)), (1, .int a1)] := hl
  have hown : s.vm.findClass R_PT = some m.cls := hown
  have hv := v0 σ0 τ0 a1 hpre
  unfold s_PT_count_0 at hv
  refine lv_iload_n hx hb d_PT_count_0 rfl (lv_at hl 1 rfl) ?_
  refine lv_bipush (v := 10) hx hb d_PT_count_1 (by decide) ?_
  refine lv_icmp_lt (tgt := 33) hx hb d_PT_count_3 (by decide) (fun hc => ?_) (fun hc => ?_)
  · replace hv := hv.1 hc
    refine lv_iload_n hx hb d_PT_count_33 rfl (lv_at hl 1 rfl) ?_
    by_cases hc0 : a1 = 0
    · replace hv := hv.1 hc0
      refine lv_tableIn (off := 38) (tgt := 72) hx hb d_PT_count_34 (by rw [hc0]; decide) (by rw [hc0]; decide) (by rw [hc0]; rfl) (by decide) ?_
      refine lv_aload_n hx hb d_PT_count_72 rfl (lv_at hl 0 rfl) ?_
      refine va_get (D := D) (ci := 6) (v := .ref (ad 1)) (C := R_PT) (T := F_PT) (N := 6) hx hb hts iw_PT hown hK hP 0 rfl rfl 0 (by decide) (hts _ t_w21) (fun _ h9 => h9) rfl d_PT_count_73 ?_
      refine va_get (D := D) (ci := 1) (v := .int (σ0 1 0)) (C := R_People) (T := F_People) (N := 7) hx hb hts iw_People hown hK hP 1 rfl rfl 0 (by decide) (hts _ t_w22) (fun _ h9 => h9) rfl d_PT_count_76 ?_
      exact gk_iret hx hb hr hlocks hK hP hD hS hv d_PT_count_79
    replace hv := hv.2 hc0
    by_cases hc1 : a1 = 1
    · replace hv := hv.1 hc1
      refine lv_tableIn (off := 46) (tgt := 80) hx hb d_PT_count_34 (by rw [hc1]; decide) (by rw [hc1]; decide) (by rw [hc1]; rfl) (by decide) ?_
      refine lv_aload_n hx hb d_PT_count_80 rfl (lv_at hl 0 rfl) ?_
      refine va_get (D := D) (ci := 6) (v := .ref (ad 15)) (C := R_PT) (T := F_PT) (N := 6) hx hb hts iw_PT hown hK hP 0 rfl rfl 2 (by decide) (hts _ t_w32) (fun _ h9 => h9) rfl d_PT_count_81 ?_
      refine va_get (D := D) (ci := 4) (v := .int (σ0 15 0)) (C := R_Tugs) (T := F_Tugs) (N := 2) hx hb hts iw_Tugs hown hK hP 15 rfl rfl 0 (by decide) (hts _ t_w33) (fun _ h9 => h9) rfl d_PT_count_84 ?_
      exact gk_iret hx hb hr hlocks hK hP hD hS hv d_PT_count_87
    replace hv := hv.2 hc1
    by_cases hc2 : a1 = 2
    · replace hv := hv.1 hc2
      refine lv_tableIn (off := 54) (tgt := 88) hx hb d_PT_count_34 (by rw [hc2]; decide) (by rw [hc2]; decide) (by rw [hc2]; rfl) (by decide) ?_
      refine lv_aload_n hx hb d_PT_count_88 rfl (lv_at hl 0 rfl) ?_
      refine va_get (D := D) (ci := 6) (v := .ref (ad 8)) (C := R_PT) (T := F_PT) (N := 6) hx hb hts iw_PT hown hK hP 0 rfl rfl 1 (by decide) (hts _ t_w45) (fun _ h9 => h9) rfl d_PT_count_89 ?_
      refine va_get (D := D) (ci := 0) (v := .int (σ0 8 0)) (C := R_Jobs) (T := F_Jobs) (N := 7) hx hb hts iw_Jobs hown hK hP 8 rfl rfl 0 (by decide) (hts _ t_w46) (fun _ h9 => h9) rfl d_PT_count_92 ?_
      exact gk_iret hx hb hr hlocks hK hP hD hS hv d_PT_count_95
    replace hv := hv.2 hc2
    by_cases hc3 : a1 = 3
    · replace hv := hv.1 hc3
      refine lv_tableIn (off := 62) (tgt := 96) hx hb d_PT_count_34 (by rw [hc3]; decide) (by rw [hc3]; decide) (by rw [hc3]; rfl) (by decide) ?_
      refine lv_aload_n hx hb d_PT_count_96 rfl (lv_at hl 0 rfl) ?_
      refine va_get (D := D) (ci := 6) (v := .ref (ad 22)) (C := R_PT) (T := F_PT) (N := 6) hx hb hts iw_PT hown hK hP 0 rfl rfl 5 (by decide) (hts _ t_w23) (fun _ h9 => h9) rfl d_PT_count_97 ?_
      refine va_get (D := D) (ci := 2) (v := .int (σ0 22 0)) (C := R_Plan) (T := F_Plan) (N := 9) hx hb hts iw_Plan hown hK hP 22 rfl rfl 0 (by decide) (hts _ t_w24) (fun _ h9 => h9) rfl d_PT_count_100 ?_
      refine lv_if_eq (tgt := 110) hx hb d_PT_count_103 (by decide) (fun hc => ?_) (fun hc => ?_)
      · replace hv := hv.1 hc
        refine lv_iconst (v := 0) hx hb d_PT_count_110 (by decide) ?_
        exact gk_iret hx hb hr hlocks hK hP hD hS hv d_PT_count_111
      · replace hv := hv.2 hc
        refine lv_iconst (v := 1) hx hb d_PT_count_106 (by decide) ?_
        refine lv_goto (tgt := 111) hx hb d_PT_count_107 (by decide) ?_
        exact gk_iret hx hb hr hlocks hK hP hD hS hv d_PT_count_111
    replace hv := hv.2 hc3
    by_cases hc4 : a1 = 4
    · replace hv := hv.1 hc4
      refine lv_tableIn (off := 78) (tgt := 112) hx hb d_PT_count_34 (by rw [hc4]; decide) (by rw [hc4]; decide) (by rw [hc4]; rfl) (by decide) ?_
      refine lv_aload_n hx hb d_PT_count_112 rfl (lv_at hl 0 rfl) ?_
      refine va_get (D := D) (ci := 6) (v := .ref (ad 22)) (C := R_PT) (T := F_PT) (N := 6) hx hb hts iw_PT hown hK hP 0 rfl rfl 5 (by decide) (hts _ t_w23) (fun _ h9 => h9) rfl d_PT_count_113 ?_
      refine va_get (D := D) (ci := 2) (v := .int (σ0 22 0)) (C := R_Plan) (T := F_Plan) (N := 9) hx hb hts iw_Plan hown hK hP 22 rfl rfl 0 (by decide) (hts _ t_w24) (fun _ h9 => h9) rfl d_PT_count_116 ?_
      refine lv_if_eq (tgt := 132) hx hb d_PT_count_119 (by decide) (fun hc => ?_) (fun hc => ?_)
      · replace hv := hv.1 hc
        refine lv_iconst (v := (-1)) hx hb d_PT_count_132 (by decide) ?_
        exact gk_iret hx hb hr hlocks hK hP hD hS hv d_PT_count_133
      · replace hv := hv.2 hc
        refine lv_aload_n hx hb d_PT_count_122 rfl (lv_at hl 0 rfl) ?_
        refine va_get (D := D) (ci := 6) (v := .ref (ad 22)) (C := R_PT) (T := F_PT) (N := 6) hx hb hts iw_PT hown hK hP 0 rfl rfl 5 (by decide) (hts _ t_w23) (fun _ h9 => h9) rfl d_PT_count_123 ?_
        refine va_get (D := D) (ci := 2) (v := .int (σ0 22 2)) (C := R_Plan) (T := F_Plan) (N := 9) hx hb hts iw_Plan hown hK hP 22 rfl rfl 2 (by decide) (hts _ t_w201) (fun _ h9 => h9) rfl d_PT_count_126 ?_
        refine lv_goto (tgt := 133) hx hb d_PT_count_129 (by decide) ?_
        exact gk_iret hx hb hr hlocks hK hP hD hS hv d_PT_count_133
    replace hv := hv.2 hc4
    by_cases hc5 : a1 = 5
    · replace hv := hv.1 hc5
      refine lv_tableIn (off := 100) (tgt := 134) hx hb d_PT_count_34 (by rw [hc5]; decide) (by rw [hc5]; decide) (by rw [hc5]; rfl) (by decide) ?_
      refine lv_aload_n hx hb d_PT_count_134 rfl (lv_at hl 0 rfl) ?_
      refine va_get (D := D) (ci := 6) (v := .ref (ad 22)) (C := R_PT) (T := F_PT) (N := 6) hx hb hts iw_PT hown hK hP 0 rfl rfl 5 (by decide) (hts _ t_w23) (fun _ h9 => h9) rfl d_PT_count_135 ?_
      refine va_get (D := D) (ci := 2) (v := .int (σ0 22 0)) (C := R_Plan) (T := F_Plan) (N := 9) hx hb hts iw_Plan hown hK hP 22 rfl rfl 0 (by decide) (hts _ t_w24) (fun _ h9 => h9) rfl d_PT_count_138 ?_
      refine lv_if_eq (tgt := 154) hx hb d_PT_count_141 (by decide) (fun hc => ?_) (fun hc => ?_)
      · replace hv := hv.1 hc
        refine lv_iconst (v := (-1)) hx hb d_PT_count_154 (by decide) ?_
        exact gk_iret hx hb hr hlocks hK hP hD hS hv d_PT_count_155
      · replace hv := hv.2 hc
        refine lv_aload_n hx hb d_PT_count_144 rfl (lv_at hl 0 rfl) ?_
        refine va_get (D := D) (ci := 6) (v := .ref (ad 22)) (C := R_PT) (T := F_PT) (N := 6) hx hb hts iw_PT hown hK hP 0 rfl rfl 5 (by decide) (hts _ t_w23) (fun _ h9 => h9) rfl d_PT_count_145 ?_
        refine va_get (D := D) (ci := 2) (v := .int (σ0 22 1)) (C := R_Plan) (T := F_Plan) (N := 9) hx hb hts iw_Plan hown hK hP 22 rfl rfl 1 (by decide) (hts _ t_w183) (fun _ h9 => h9) rfl d_PT_count_148 ?_
        refine lv_goto (tgt := 155) hx hb d_PT_count_151 (by decide) ?_
        exact gk_iret hx hb hr hlocks hK hP hD hS hv d_PT_count_155
    replace hv := hv.2 hc5
    refine lv_tableOut (tgt := 156) hx hb d_PT_count_34 (by have h0 := gk_ne hc0 (z := 0) (by decide); have h1 := gk_ne hc1 (z := 1) (by decide); have h2 := gk_ne hc2 (z := 2) (by decide); have h3 := gk_ne hc3 (z := 3) (by decide); have h4 := gk_ne hc4 (z := 4) (by decide); have h5 := gk_ne hc5 (z := 5) (by decide); omega) (by decide) ?_
    refine lv_iconst (v := (-1)) hx hb d_PT_count_156 (by decide) ?_
    exact gk_iret hx hb hr hlocks hK hP hD hS hv d_PT_count_157
  · replace hv := hv.2 hc
    refine lv_iload_n hx hb d_PT_count_6 rfl (lv_at hl 1 rfl) ?_
    refine lv_bipush (v := 10) hx hb d_PT_count_7 (by decide) ?_
    refine lv_isub hx hb d_PT_count_9 ?_
    refine lv_topi (fun y10 ey10 => ?_)
    replace hv := hv y10 ey10
    refine lv_istore_n (lv' := [(2, .int y10), (0, .ref (ad 0)), (1, .int a1)]) hx hb d_PT_count_10 rfl hl (by decide) rfl (fun ls hl => ?_)
    refine lv_aload_n hx hb d_PT_count_11 rfl (lv_at hl 1 rfl) ?_
    refine lv_iload_n hx hb d_PT_count_12 rfl (lv_at hl 0 rfl) ?_
    obtain ⟨hg, hv⟩ := hv
    refine gk_callVi (As := [.int y10]) (rest := []) (b := ad 0) ⟨hx, hb, hml, hown, hts⟩ (h_PT_isPerson _ σ0 τ0 y10 hg) (gk_cwV 1 hts t_w63 rfl rfl rfl (hts _ t_w60) (hts _ t_w61) (hts _ t_w62) (hts _ t_w5) (by decide +kernel) ⟨Nat.le_of_ble_eq_true rfl, Nat.le_of_ble_eq_true rfl⟩) hK hP hD hS (va_recv hK hP (ci := 6) (q0 := 0) rfl rfl) rfl hl.1 rfl (lv_room (Nat.le_of_ble_eq_true rfl)) d_PT_count_13 ⟨Nat.zero_le _, Nat.zero_le _⟩ ?_
    intro r13 s13 t13 H locs hw hP hD hS
    replace hv := hv r13 s13 t13 hw
    refine lv_if_eq (tgt := 31) hx hb d_PT_count_16 (by decide) (fun hc => ?_) (fun hc => ?_)
    · replace hv := hv.1 hc
      refine lv_iconst (v := (-1)) hx hb d_PT_count_31 (by decide) ?_
      exact gk_iret hx hb hr hlocks hK hP hD hS hv d_PT_count_32
    · replace hv := hv.2 hc
      refine lv_aload_n hx hb d_PT_count_19 rfl (lv_at hl 1 rfl) ?_
      refine va_get (D := D) (ci := 6) (v := .ref (ad 1)) (C := R_PT) (T := F_PT) (N := 6) hx hb hts iw_PT hown hK hP 0 rfl rfl 0 (by decide) (hts _ t_w21) (fun _ h9 => h9) rfl d_PT_count_20 ?_
      refine va_get (D := D) (ci := 1) (v := .ref (ad 7)) (C := R_People) (T := F_People) (N := 7) hx hb hts iw_People hown hK hP 1 rfl rfl 6 (by decide) (hts _ t_w246) (fun _ h9 => h9) rfl d_PT_count_23 ?_
      refine lv_iload_n hx hb d_PT_count_26 rfl (lv_at hl 0 rfl) ?_
      obtain ⟨hi, hv⟩ := hv
      refine va_iald hx hb hK hP 7 0 rfl rfl hi d_PT_count_27 ?_
      refine lv_goto (tgt := 32) hx hb d_PT_count_28 (by decide) ?_
      exact gk_iret hx hb hr hlocks hK hP hD hS hv d_PT_count_32
