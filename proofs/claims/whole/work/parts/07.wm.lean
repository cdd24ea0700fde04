theorem d_Mo_thrown_0 : decode b_Mo_thrown 0 = .ok (.aload_n 0, 1) := by decide +kernel
theorem d_Mo_thrown_1 : decode b_Mo_thrown 1 = .ok (.getfield 61, 3) := by decide +kernel
theorem d_Mo_thrown_4 : decode b_Mo_thrown 4 = .ok (.ireturn, 1) := by decide +kernel
def s_Mo_thrown_0 (σ : MI) (τ : ML) (R : Int32 → MI → ML → Prop) : Prop :=
  R (σ 29 0) σ τ
set_option maxHeartbeats 4000000 in
set_option maxRecDepth 100000 in
theorem k_Mo_thrown (l : Launch) (D : va_G) (ad : Nat → Nat) (ci cl : ClassId)
    (pre : MI → ML → Prop) (post : MI → ML → Int32 → MI → ML → Prop)
    (v0 : ∀ (σ0 : MI) (τ0 : ML), pre σ0 τ0 → s_Mo_thrown_0 σ0 τ0 (post σ0 τ0)) :
    ∀ (sz : Nat) (σ0 : MI) (τ0 : ML), pre σ0 τ0 → gMi l D (xw ad ci cl) (xt ci cl) (xa ad) y_Mo_thrown w_Mo_thrown rm_Mo_thrown [.ref (ad 29)] sz σ0 τ0 (post σ0 τ0) := by
  intro sz σ0 τ0 hpre
  refine gk_ofWi (cc := b_Mo_thrown) (maxL := 1) (ret := (some .int)) (by decide) rfl xa_ok (Nat.le_of_ble_eq_true rfl) ?_
  intro p e s m below meth c ls hx hb hr hlocks hml hown hts hK hP hD hS hl
  have hl : lv_has ls 1 [(0, .ref (ad 29))] := hl
  have hown : s.vm.findClass R_Mo = some m.cls := hown
  have hv := v0 σ0 τ0 hpre
  unfold s_Mo_thrown_0 at hv
  refine lv_aload_n hx hb d_Mo_thrown_0 rfl (lv_at hl 0 rfl) ?_
  refine va_get (D := D) (ci := 7) (v := .int (σ0 29 0)) (C := R_Mo) (T := F_Mo) (N := 24) hx hb hts iw_Mo hown hK hP 29 rfl rfl 0 (by decide) (hts _ t_w247) (fun _ h9 => h9) rfl d_Mo_thrown_1 ?_
  exact gk_iret hx hb hr hlocks hK hP hD hS hv d_Mo_thrown_4
theorem d_Mo_refuse_0 : decode b_Mo_refuse 0 = .ok (.aload_n 0, 1) := by decide +kernel
theorem d_Mo_refuse_1 : decode b_Mo_refuse 1 = .ok (.iload_n 1, 1) := by decide +kernel
theorem d_Mo_refuse_2 : decode b_Mo_refuse 2 = .ok (.putfield 61, 3) := by decide +kernel
theorem d_Mo_refuse_5 : decode b_Mo_refuse 5 = .ok (.iconst 0, 1) := by decide +kernel
theorem d_Mo_refuse_6 : decode b_Mo_refuse 6 = .ok (.ireturn, 1) := by decide +kernel
def s_Mo_refuse_0 (σ : MI) (τ : ML) (a1 : Int32) (R : Int32 → MI → ML → Prop) : Prop :=
  ∀ s2 : MI, s2 = st2 σ 29 0 a1 → (R 0 s2 τ)
set_option maxHeartbeats 4000000 in
set_option maxRecDepth 100000 in
theorem k_Mo_refuse (l : Launch) (D : va_G) (ad : Nat → Nat) (ci cl : ClassId)
    (pre : MI → ML → Int32 → Prop) (post : MI → ML → Int32 → Int32 → MI → ML → Prop)
    (v0 : ∀ (σ0 : MI) (τ0 : ML) (a1 : Int32), pre σ0 τ0 a1 → s_Mo_refuse_0 σ0 τ0 a1 (post σ0 τ0 a1)) :
    ∀ (sz : Nat) (σ0 : MI) (τ0 : ML) (a1 : Int32), pre σ0 τ0 a1 → gMi l D (xw ad ci cl) (xt ci cl) (xa ad) y_Mo_refuse w_Mo_refuse rm_Mo_refuse [.ref (ad 29), .int a1] sz σ0 τ0 (post σ0 τ0 a1) := by
  intro sz σ0 τ0 a1 hpre
  refine gk_ofWi (cc := b_Mo_refuse) (maxL := 2) (ret := (some .int)) (by decide) rfl xa_ok (Nat.le_of_ble_eq_true rfl) ?_
  intro p e s m below meth c ls hx hb hr hlocks hml hown hts hK hP hD hS hl
  have hl : lv_has ls 2 [(0, .ref (ad 29)), (1, .int a1)] := hl
  have hown : s.vm.findClass R_Mo = some m.cls := hown
  have hv := v0 σ0 τ0 a1 hpre
  unfold s_Mo_refuse_0 at hv
  refine lv_aload_n hx hb d_Mo_refuse_0 rfl (lv_at hl 0 rfl) ?_
  refine lv_iload_n hx hb d_Mo_refuse_1 rfl (lv_at hl 1 rfl) ?_
  refine va_put (D := D) (ci := 7) (v := .int a1) (ty := .int) (fs := [.int (σ0 29 0), .int (σ0 29 1), .ref (ad 30), .ref (ad 31), .ref (ad 32), .ref (ad 33), .ref (ad 34), .ref (ad 35), .int (σ0 29 8), .ref (ad 36), .int (σ0 29 10), .ref (ad 37), .ref (ad 38), .ref (ad 39), .ref (ad 40), .ref (ad 41), .ref (ad 42), .int (σ0 29 17), .int (σ0 29 18), .ref (ad 43), .ref (ad 44), .int (σ0 29 21), .ref (ad 45), .ref (ad 46)]) (C := R_Mo) (T := F_Mo) (N := 24) hx hb hts iw_Mo ty_Mo ty_Mo_ok nn_Mo hown hK hP hD hS 29 rfl rfl 0 (by decide) (hts _ t_w247) (fun _ h9 => h9) rfl (by decide +kernel) rfl rfl (Nat.le_of_ble_eq_true rfl) d_Mo_refuse_2 (fun H locs hP hD hS => ?_)
  rw [xf_29_0] at hP hD
  obtain ⟨s2, es2⟩ : ∃ z : MI, z = st2 σ0 29 0 a1 := ⟨_, rfl⟩
  rw [← es2] at hP hD
  replace hv := hv s2 es2
  refine lv_iconst (v := 0) hx hb d_Mo_refuse_5 (by decide) ?_
  exact gk_iret hx hb hr hlocks hK hP hD hS hv d_Mo_refuse_6
theorem d_Mo_in_0 : decode b_Mo_in 0 = .ok (.iload_n 0, 1) := by decide +kernel
theorem d_Mo_in_1 : decode b_Mo_in 1 = .ok (.iload_n 1, 1) := by decide +kernel
theorem d_Mo_in_2 : decode b_Mo_in 2 = .ok (.if_icmp .lt 12, 3) := by decide +kernel
theorem d_Mo_in_5 : decode b_Mo_in 5 = .ok (.iload_n 0, 1) := by decide +kernel
theorem d_Mo_in_6 : decode b_Mo_in 6 = .ok (.iload_n 2, 1) := by decide +kernel
theorem d_Mo_in_7 : decode b_Mo_in 7 = .ok (.if_icmp .gt 7, 3) := by decide +kernel
theorem d_Mo_in_10 : decode b_Mo_in 10 = .ok (.iconst 1, 1) := by decide +kernel
theorem d_Mo_in_11 : decode b_Mo_in 11 = .ok (.goto 4, 3) := by decide +kernel
theorem d_Mo_in_14 : decode b_Mo_in 14 = .ok (.iconst 0, 1) := by decide +kernel
theorem d_Mo_in_15 : decode b_Mo_in 15 = .ok (.ireturn, 1) := by decide +kernel
def s_Mo_in_0 (σ : MI) (τ : ML) (a0 : Int32) (a1 : Int32) (a2 : Int32) (R : Int32 → MI → ML → Prop) : Prop :=
  (a0 < a1 →
  ((0 = (0 : Int32) ∨ 0 = (1 : Int32)) ∧ R 0 σ τ)) ∧
  (¬ a0 < a1 →
  ((a2 < a0 →
    ((0 = (0 : Int32) ∨ 0 = (1 : Int32)) ∧ R 0 σ τ)) ∧
    (¬ a2 < a0 →
    ((1 = (0 : Int32) ∨ 1 = (1 : Int32)) ∧ R 1 σ τ))))
set_option maxHeartbeats 4000000 in
set_option maxRecDepth 100000 in
theorem k_Mo_in (l : Launch) (D : va_G) (ad : Nat → Nat) (ci cl : ClassId)
    (pre : MI → ML → Int32 → Int32 → Int32 → Prop) (post : MI → ML → Int32 → Int32 → Int32 → Int32 → MI → ML → Prop)
    (v0 : ∀ (σ0 : MI) (τ0 : ML) (a0 : Int32) (a1 : Int32) (a2 : Int32), pre σ0 τ0 a0 a1 a2 → s_Mo_in_0 σ0 τ0 a0 a1 a2 (post σ0 τ0 a0 a1 a2)) :
    ∀ (sz : Nat) (σ0 : MI) (τ0 : ML) (a0 : Int32) (a1 : Int32) (a2 : Int32), pre σ0 τ0 a0 a1 a2 → gMi l D (xw ad ci cl) (xt ci cl) (xa ad) y_Mo_in w_Mo_in rm_Mo_in [.int a0, .int a1, .int a2] sz σ0 τ0 (post σ0 τ0 a0 a1 a2) := by
  intro sz σ0 τ0 a0 a1 a2 hpre
  refine gk_ofWi (cc := b_Mo_in) (maxL := 3) (ret := (some .boolean)) (by decide) rfl xa_ok (Nat.le_of_ble_eq_true rfl) ?_
  intro p e s m below meth c ls hx hb hr hlocks hml hown hts hK hP hD hS hl
  have hl : lv_has ls 3 [(0, .int a0), (1, .int a1), (2, .int a2)] := hl
  have hown : s.vm.findClass R_Mo = some m.cls := hown
  have hv := v0 σ0 τ0 a0 a1 a2 hpre
  unfold s_Mo_in_0 at hv
  refine lv_iload_n hx hb d_Mo_in_0 rfl (lv_at hl 0 rfl) ?_
  refine lv_iload_n hx hb d_Mo_in_1 rfl (lv_at hl 1 rfl) ?_
  refine lv_icmp_lt (tgt := 14) hx hb d_Mo_in_2 (by decide) (fun hc => ?_) (fun hc => ?_)
  · replace hv := hv.1 hc
    refine lv_iconst (v := 0) hx hb d_Mo_in_14 (by decide) ?_
    obtain ⟨hz, hv⟩ := hv
    exact gk_zret hx hb hr hlocks (gk_nz hz) hK hP hD hS hv d_Mo_in_15
  · replace hv := hv.2 hc
    refine lv_iload_n hx hb d_Mo_in_5 rfl (lv_at hl 0 rfl) ?_
    refine lv_iload_n hx hb d_Mo_in_6 rfl (lv_at hl 2 rfl) ?_
    refine lv_icmp_gt (tgt := 14) hx hb d_Mo_in_7 (by decide) (fun hc => ?_) (fun hc => ?_)
    · replace hv := hv.1 hc
      refine lv_iconst (v := 0) hx hb d_Mo_in_14 (by decide) ?_
      obtain ⟨hz, hv⟩ := hv
      exact gk_zret hx hb hr hlocks (gk_nz hz) hK hP hD hS hv d_Mo_in_15
    · replace hv := hv.2 hc
      refine lv_iconst (v := 1) hx hb d_Mo_in_10 (by decide) ?_
      refine lv_goto (tgt := 15) hx hb d_Mo_in_11 (by decide) ?_
      obtain ⟨hz, hv⟩ := hv
      exact gk_zret hx hb hr hlocks (gk_nz hz) hK hP hD hS hv d_Mo_in_15
theorem d_Mo_isPlace_0 : decode b_Mo_isPlace 0 = .ok (.iload_n 0, 1) := by decide +kernel
theorem d_Mo_isPlace_1 : decode b_Mo_isPlace 1 = .ok (.ifCond .lt 12, 3) := by decide +kernel
theorem d_Mo_isPlace_4 : decode b_Mo_isPlace 4 = .ok (.iload_n 0, 1) := by decide +kernel
theorem d_Mo_isPlace_5 : decode b_Mo_isPlace 5 = .ok (.iconst 5, 1) := by decide +kernel
theorem d_Mo_isPlace_6 : decode b_Mo_isPlace 6 = .ok (.if_icmp .ge 7, 3) := by decide +kernel
theorem d_Mo_isPlace_9 : decode b_Mo_isPlace 9 = .ok (.iconst 1, 1) := by decide +kernel
theorem d_Mo_isPlace_10 : decode b_Mo_isPlace 10 = .ok (.goto 4, 3) := by decide +kernel
theorem d_Mo_isPlace_13 : decode b_Mo_isPlace 13 = .ok (.iconst 0, 1) := by decide +kernel
theorem d_Mo_isPlace_14 : decode b_Mo_isPlace 14 = .ok (.ireturn, 1) := by decide +kernel
def s_Mo_isPlace_0 (σ : MI) (τ : ML) (a0 : Int32) (R : Int32 → MI → ML → Prop) : Prop :=
  (a0 < 0 →
  ((0 = (0 : Int32) ∨ 0 = (1 : Int32)) ∧ R 0 σ τ)) ∧
  (¬ a0 < 0 →
  ((5 ≤ a0 →
    ((0 = (0 : Int32) ∨ 0 = (1 : Int32)) ∧ R 0 σ τ)) ∧
    (¬ 5 ≤ a0 →
    ((1 = (0 : Int32) ∨ 1 = (1 : Int32)) ∧ R 1 σ τ))))
set_option maxHeartbeats 4000000 in
set_option maxRecDepth 100000 in
theorem k_Mo_isPlace (l : Launch) (D : va_G) (ad : Nat → Nat) (ci cl : ClassId)
    (pre : MI → ML → Int32 → Prop) (post : MI → ML → Int32 → Int32 → MI → ML → Prop)
    (v0 : ∀ (σ0 : MI) (τ0 : ML) (a0 : Int32), pre σ0 τ0 a0 → s_Mo_isPlace_0 σ0 τ0 a0 (post σ0 τ0 a0)) :
    ∀ (sz : Nat) (σ0 : MI) (τ0 : ML) (a0 : Int32), pre σ0 τ0 a0 → gMi l D (xw ad ci cl) (xt ci cl) (xa ad) y_Mo_isPlace w_Mo_isPlace rm_Mo_isPlace [.int a0] sz σ0 τ0 (post σ0 τ0 a0) := by
  intro sz σ0 τ0 a0 hpre
  refine gk_ofWi (cc := b_Mo_isPlace) (maxL := 1) (ret := (some .boolean)) (by decide) rfl xa_ok (Nat.le_of_ble_eq_true rfl) ?_
  intro p e s m below meth c ls hx hb hr hlocks hml hown hts hK hP hD hS hl
  have hl : lv_has ls 1 [(0, .int a0)] := hl
  have hown : s.vm.findClass R_Mo = some m.cls := hown
  have hv := v0 σ0 τ0 a0 hpre
  unfold s_Mo_isPlace_0 at hv
  refine lv_iload_n hx hb d_Mo_isPlace_0 rfl (lv_at hl 0 rfl) ?_
  refine lv_if_lt (tgt := 13) hx hb d_Mo_isPlace_1 (by decide) (fun hc => ?_) (fun hc => ?_)
  · replace hv := hv.1 hc
    refine lv_iconst (v := 0) hx hb d_Mo_isPlace_13 (by decide) ?_
    obtain ⟨hz, hv⟩ := hv
    exact gk_zret hx hb hr hlocks (gk_nz hz) hK hP hD hS hv d_Mo_isPlace_14
  · replace hv := hv.2 hc
    refine lv_iload_n hx hb d_Mo_isPlace_4 rfl (lv_at hl 0 rfl) ?_
    refine lv_iconst (v := 5) hx hb d_Mo_isPlace_5 (by decide) ?_
    refine lv_icmp_ge (tgt := 13) hx hb d_Mo_isPlace_6 (by decide) (fun hc => ?_) (fun hc => ?_)
    · replace hv := hv.1 hc
      refine lv_iconst (v := 0) hx hb d_Mo_isPlace_13 (by decide) ?_
      obtain ⟨hz, hv⟩ := hv
      exact gk_zret hx hb hr hlocks (gk_nz hz) hK hP hD hS hv d_Mo_isPlace_14
    · replace hv := hv.2 hc
      refine lv_iconst (v := 1) hx hb d_Mo_isPlace_9 (by decide) ?_
      refine lv_goto (tgt := 14) hx hb d_Mo_isPlace_10 (by decide) ?_
      obtain ⟨hz, hv⟩ := hv
      exact gk_zret hx hb hr hlocks (gk_nz hz) hK hP hD hS hv d_Mo_isPlace_14
theorem d_Mo_isPerson_0 : decode b_Mo_isPerson 0 = .ok (.iload_n 1, 1) := by decide +kernel
theorem d_Mo_isPerson_1 : decode b_Mo_isPerson 1 = .ok (.ifCond .lt 15, 3) := by decide +kernel
theorem d_Mo_isPerson_4 : decode b_Mo_isPerson 4 = .ok (.iload_n 1, 1) := by decide +kernel
theorem d_Mo_isPerson_5 : decode b_Mo_isPerson 5 = .ok (.aload_n 0, 1) := by decide +kernel
theorem d_Mo_isPerson_6 : decode b_Mo_isPerson 6 = .ok (.getfield 65, 3) := by decide +kernel
theorem d_Mo_isPerson_9 : decode b_Mo_isPerson 9 = .ok (.if_icmp .ge 7, 3) := by decide +kernel
theorem d_Mo_isPerson_12 : decode b_Mo_isPerson 12 = .ok (.iconst 1, 1) := by decide +kernel
theorem d_Mo_isPerson_13 : decode b_Mo_isPerson 13 = .ok (.goto 4, 3) := by decide +kernel
theorem d_Mo_isPerson_16 : decode b_Mo_isPerson 16 = .ok (.iconst 0, 1) := by decide +kernel
theorem d_Mo_isPerson_17 : decode b_Mo_isPerson 17 = .ok (.ireturn, 1) := by decide +kernel
def s_Mo_isPerson_0 (σ : MI) (τ : ML) (a1 : Int32) (R : Int32 → MI → ML → Prop) : Prop :=
  (a1 < 0 →
  ((0 = (0 : Int32) ∨ 0 = (1 : Int32)) ∧ R 0 σ τ)) ∧
  (¬ a1 < 0 →
  (((σ 29 1) ≤ a1 →
    ((0 = (0 : Int32) ∨ 0 = (1 : Int32)) ∧ R 0 σ τ)) ∧
    (¬ (σ 29 1) ≤ a1 →
    ((1 = (0 : Int32) ∨ 1 = (1 : Int32)) ∧ R 1 σ τ))))
set_option maxHeartbeats 4000000 in
set_option maxRecDepth 100000 in
theorem k_Mo_isPerson (l : Launch) (D : va_G) (ad : Nat → Nat) (ci cl : ClassId)
    (pre : MI → ML → Int32 → Prop) (post : MI → ML → Int32 → Int32 → MI → ML → Prop)
    (v0 : ∀ (σ0 : MI) (τ0 : ML) (a1 : Int32), pre σ0 τ0 a1 → s_Mo_isPerson_0 σ0 τ0 a1 (post σ0 τ0 a1)) :
    ∀ (sz : Nat) (σ0 : MI) (τ0 : ML) (a1 : Int32), pre σ0 τ0 a1 → gMi l D (xw ad ci cl) (xt ci cl) (xa ad) y_Mo_isPerson w_Mo_isPerson rm_Mo_isPerson [.ref (ad 29), .int a1] sz σ0 τ0 (post σ0 τ0 a1) := by
  intro sz σ0 τ0 a1 hpre
  refine gk_ofWi (cc := b_Mo_isPerson) (maxL := 2) (ret := (some .boolean)) (by decide) rfl xa_ok (Nat.le_of_ble_eq_true rfl) ?_
  intro p e s m below meth c ls hx hb hr hlocks hml hown hts hK hP hD hS hl
  have hl : lv_has ls 2 [(0, .ref (ad 29)), (1, .int a1)] := hl
  have hown : s.vm.findClass R_Mo = some m.cls := hown
  have hv := v0 σ0 τ0 a1 hpre
  unfold s_Mo_isPerson_0 at hv
  refine lv_iload_n hx hb d_Mo_isPerson_0 rfl (lv_at hl 1 rfl) ?_
  refine lv_if_lt (tgt := 16) hx hb d_Mo_isPerson_1 (by decide) (fun hc => ?_) (fun hc => ?_)
  · replace hv := hv.1 hc
    refine lv_iconst (v := 0) hx hb d_Mo_isPerson_16 (by decide) ?_
    obtain ⟨hz, hv⟩ := hv
    exact gk_zret hx hb hr hlocks (gk_nz hz) hK hP hD hS hv d_Mo_isPerson_17
  · replace hv := hv.2 hc
    refine lv_iload_n hx hb d_Mo_isPerson_4 rfl (lv_at hl 1 rfl) ?_
    refine lv_aload_n hx hb d_Mo_isPerson_5 rfl (lv_at hl 0 rfl) ?_
    refine va_get (D := D) (ci := 7) (v := .int (σ0 29 1)) (C := R_Mo) (T := F_Mo) (N := 24) hx hb hts iw_Mo hown hK hP 29 rfl rfl 1 (by decide) (hts _ t_w248) (fun _ h9 => h9) rfl d_Mo_isPerson_6 ?_
    refine lv_icmp_ge (tgt := 16) hx hb d_Mo_isPerson_9 (by decide) (fun hc => ?_) (fun hc => ?_)
    · replace hv := hv.1 hc
      refine lv_iconst (v := 0) hx hb d_Mo_isPerson_16 (by decide) ?_
      obtain ⟨hz, hv⟩ := hv
      exact gk_zret hx hb hr hlocks (gk_nz hz) hK hP hD hS hv d_Mo_isPerson_17
    · replace hv := hv.2 hc
      refine lv_iconst (v := 1) hx hb d_Mo_isPerson_12 (by decide) ?_
      refine lv_goto (tgt := 17) hx hb d_Mo_isPerson_13 (by decide) ?_
      obtain ⟨hz, hv⟩ := hv
      exact gk_zret hx hb hr hlocks (gk_nz hz) hK hP hD hS hv d_Mo_isPerson_17
theorem d_Mo_isJob_0 : decode b_Mo_isJob 0 = .ok (.iload_n 1, 1) := by decide +kernel
theorem d_Mo_isJob_1 : decode b_Mo_isJob 1 = .ok (.ifCond .lt 15, 3) := by decide +kernel
theorem d_Mo_isJob_4 : decode b_Mo_isJob 4 = .ok (.iload_n 1, 1) := by decide +kernel
theorem d_Mo_isJob_5 : decode b_Mo_isJob 5 = .ok (.aload_n 0, 1) := by decide +kernel
theorem d_Mo_isJob_6 : decode b_Mo_isJob 6 = .ok (.getfield 68, 3) := by decide +kernel
theorem d_Mo_isJob_9 : decode b_Mo_isJob 9 = .ok (.if_icmp .ge 7, 3) := by decide +kernel
theorem d_Mo_isJob_12 : decode b_Mo_isJob 12 = .ok (.iconst 1, 1) := by decide +kernel
theorem d_Mo_isJob_13 : decode b_Mo_isJob 13 = .ok (.goto 4, 3) := by decide +kernel
theorem d_Mo_isJob_16 : decode b_Mo_isJob 16 = .ok (.iconst 0, 1) := by decide +kernel
theorem d_Mo_isJob_17 : decode b_Mo_isJob 17 = .ok (.ireturn, 1) := by decide +kernel
def s_Mo_isJob_0 (σ : MI) (τ : ML) (a1 : Int32) (R : Int32 → MI → ML → Prop) : Prop :=
  (a1 < 0 →
  ((0 = (0 : Int32) ∨ 0 = (1 : Int32)) ∧ R 0 σ τ)) ∧
  (¬ a1 < 0 →
  (((σ 29 10) ≤ a1 →
    ((0 = (0 : Int32) ∨ 0 = (1 : Int32)) ∧ R 0 σ τ)) ∧
    (¬ (σ 29 10) ≤ a1 →
    ((1 = (0 : Int32) ∨ 1 = (1 : Int32)) ∧ R 1 σ τ))))
set_option maxHeartbeats 4000000 in
set_option maxRecDepth 100000 in
theorem k_Mo_isJob (l : Launch) (D : va_G) (ad : Nat → Nat) (ci cl : ClassId)
    (pre : MI → ML → Int32 → Prop) (post : MI → ML → Int32 → Int32 → MI → ML → Prop)
    (v0 : ∀ (σ0 : MI) (τ0 : ML) (a1 : Int32), pre σ0 τ0 a1 → s_Mo_isJob_0 σ0 τ0 a1 (post σ0 τ0 a1)) :
    ∀ (sz : Nat) (σ0 : MI) (τ0 : ML) (a1 : Int32), pre σ0 τ0 a1 → gMi l D (xw ad ci cl) (xt ci cl) (xa ad) y_Mo_isJob w_Mo_isJob rm_Mo_isJob [.ref (ad 29), .int a1] sz σ0 τ0 (post σ0 τ0 a1) := by
  intro sz σ0 τ0 a1 hpre
  refine gk_ofWi (cc := b_Mo_isJob) (maxL := 2) (ret := (some .boolean)) (by decide) rfl xa_ok (Nat.le_of_ble_eq_true rfl) ?_
  intro p e s m below meth c ls hx hb hr hlocks hml hown hts hK hP hD hS hl
  have hl : lv_has ls 2 [(0, .ref (ad 29)), (1, .int a1)] := hl
  have hown : s.vm.findClass R_Mo = some m.cls := hown
  have hv := v0 σ0 τ0 a1 hpre
  unfold s_Mo_isJob_0 at hv
  refine lv_iload_n hx hb d_Mo_isJob_0 rfl (lv_at hl 1 rfl) ?_
  refine lv_if_lt (tgt := 16) hx hb d_Mo_isJob_1 (by decide) (fun hc => ?_) (fun hc => ?_)
  · replace hv := hv.1 hc
    refine lv_iconst (v := 0) hx hb d_Mo_isJob_16 (by decide) ?_
    obtain ⟨hz, hv⟩ := hv
    exact gk_zret hx hb hr hlocks (gk_nz hz) hK hP hD hS hv d_Mo_isJob_17
  · replace hv := hv.2 hc
    refine lv_iload_n hx hb d_Mo_isJob_4 rfl (lv_at hl 1 rfl) ?_
    refine lv_aload_n hx hb d_Mo_isJob_5 rfl (lv_at hl 0 rfl) ?_
    refine va_get (D := D) (ci := 7) (v := .int (σ0 29 10)) (C := R_Mo) (T := F_Mo) (N := 24) hx hb hts iw_Mo hown hK hP 29 rfl rfl 10 (by decide) (hts _ t_w249) (fun _ h9 => h9) rfl d_Mo_isJob_6 ?_
    refine lv_icmp_ge (tgt := 16) hx hb d_Mo_isJob_9 (by decide) (fun hc => ?_) (fun hc => ?_)
    · replace hv := hv.1 hc
      refine lv_iconst (v := 0) hx hb d_Mo_isJob_16 (by decide) ?_
      obtain ⟨hz, hv⟩ := hv
      exact gk_zret hx hb hr hlocks (gk_nz hz) hK hP hD hS hv d_Mo_isJob_17
    · replace hv := hv.2 hc
      refine lv_iconst (v := 1) hx hb d_Mo_isJob_12 (by decide) ?_
      refine lv_goto (tgt := 17) hx hb d_Mo_isJob_13 (by decide) ?_
      obtain ⟨hz, hv⟩ := hv
      exact gk_zret hx hb hr hlocks (gk_nz hz) hK hP hD hS hv d_Mo_isJob_17
theorem d_Mo_isSpan_0 : decode b_Mo_isSpan 0 = .ok (.iload_n 0, 1) := by decide +kernel
theorem d_Mo_isSpan_1 : decode b_Mo_isSpan 1 = .ok (.ifCond .lt 19, 3) := by decide +kernel
theorem d_Mo_isSpan_4 : decode b_Mo_isSpan 4 = .ok (.iload_n 0, 1) := by decide +kernel
theorem d_Mo_isSpan_5 : decode b_Mo_isSpan 5 = .ok (.iload_n 1, 1) := by decide +kernel
theorem d_Mo_isSpan_6 : decode b_Mo_isSpan 6 = .ok (.if_icmp .ge 14, 3) := by decide +kernel
theorem d_Mo_isSpan_9 : decode b_Mo_isSpan 9 = .ok (.iload_n 1, 1) := by decide +kernel
theorem d_Mo_isSpan_10 : decode b_Mo_isSpan 10 = .ok (.sipush 2880, 3) := by decide +kernel
theorem d_Mo_isSpan_13 : decode b_Mo_isSpan 13 = .ok (.if_icmp .gt 7, 3) := by decide +kernel
theorem d_Mo_isSpan_16 : decode b_Mo_isSpan 16 = .ok (.iconst 1, 1) := by decide +kernel
theorem d_Mo_isSpan_17 : decode b_Mo_isSpan 17 = .ok (.goto 4, 3) := by decide +kernel
theorem d_Mo_isSpan_20 : decode b_Mo_isSpan 20 = .ok (.iconst 0, 1) := by decide +kernel
theorem d_Mo_isSpan_21 : decode b_Mo_isSpan 21 = .ok (.ireturn, 1) := by decide +kernel
def s_Mo_isSpan_0 (σ : MI) (τ : ML) (a0 : Int32) (a1 : Int32) (R : Int32 → MI → ML → Prop) : Prop :=
  (a0 < 0 →
  ((0 = (0 : Int32) ∨ 0 = (1 : Int32)) ∧ R 0 σ τ)) ∧
  (¬ a0 < 0 →
  ((a1 ≤ a0 →
    ((0 = (0 : Int32) ∨ 0 = (1 : Int32)) ∧ R 0 σ τ)) ∧
    (¬ a1 ≤ a0 →
    ((2880 < a1 →
      ((0 = (0 : Int32) ∨ 0 = (1 : Int32)) ∧ R 0 σ τ)) ∧
      (¬ 2880 < a1 →
      ((1 = (0 : Int32) ∨ 1 = (1 : Int32)) ∧ R 1 σ τ))))))
set_option maxHeartbeats 4000000 in
set_option maxRecDepth 100000 in
theorem k_Mo_isSpan (l : Launch) (D : va_G) (ad : Nat → Nat) (ci cl : ClassId)
    (pre : MI → ML → Int32 → Int32 → Prop) (post : MI → ML → Int32 → Int32 → Int32 → MI → ML → Prop)
    (v0 : ∀ (σ0 : MI) (τ0 : ML) (a0 : Int32) (a1 : Int32), pre σ0 τ0 a0 a1 → s_Mo_isSpan_0 σ0 τ0 a0 a1 (post σ0 τ0 a0 a1)) :
    ∀ (sz : Nat) (σ0 : MI) (τ0 : ML) (a0 : Int32) (a1 : Int32), pre σ0 τ0 a0 a1 → gMi l D (xw ad ci cl) (xt ci cl) (xa ad) y_Mo_isSpan w_Mo_isSpan rm_Mo_isSpan [.int a0, .int a1] sz σ0 τ0 (post σ0 τ0 a0 a1) := by
  intro sz σ0 τ0 a0 a1 hpre
  refine gk_ofWi (cc := b_Mo_isSpan) (maxL := 2) (ret := (some .boolean)) (by decide) rfl xa_ok (Nat.le_of_ble_eq_true rfl) ?_
  intro p e s m below meth c ls hx hb hr hlocks hml hown hts hK hP hD hS hl
  have hl : lv_has ls 2 [(0, .int a0), (1, .int a1)] := hl
  have hown : s.vm.findClass R_Mo = some m.cls := hown
  have hv := v0 σ0 τ0 a0 a1 hpre
  unfold s_Mo_isSpan_0 at hv
  refine lv_iload_n hx hb d_Mo_isSpan_0 rfl (lv_at hl 0 rfl) ?_
  refine lv_if_lt (tgt := 20) hx hb d_Mo_isSpan_1 (by decide) (fun hc => ?_) (fun hc => ?_)
  · replace hv := hv.1 hc
    refine lv_iconst (v := 0) hx hb d_Mo_isSpan_20 (by decide) ?_
    obtain ⟨hz, hv⟩ := hv
    exact gk_zret hx hb hr hlocks (gk_nz hz) hK hP hD hS hv d_Mo_isSpan_21
  · replace hv := hv.2 hc
    refine lv_iload_n hx hb d_Mo_isSpan_4 rfl (lv_at hl 0 rfl) ?_
    refine lv_iload_n hx hb d_Mo_isSpan_5 rfl (lv_at hl 1 rfl) ?_
    refine lv_icmp_ge (tgt := 20) hx hb d_Mo_isSpan_6 (by decide) (fun hc => ?_) (fun hc => ?_)
    · replace hv := hv.1 hc
      refine lv_iconst (v := 0) hx hb d_Mo_isSpan_20 (by decide) ?_
      obtain ⟨hz, hv⟩ := hv
      exact gk_zret hx hb hr hlocks (gk_nz hz) hK hP hD hS hv d_Mo_isSpan_21
    · replace hv := hv.2 hc
      refine lv_iload_n hx hb d_Mo_isSpan_9 rfl (lv_at hl 1 rfl) ?_
      refine lv_sipush (v := 2880) hx hb d_Mo_isSpan_10 (by decide) ?_
      refine lv_icmp_gt (tgt := 20) hx hb d_Mo_isSpan_13 (by decide) (fun hc => ?_) (fun hc => ?_)
      · replace hv := hv.1 hc
        refine lv_iconst (v := 0) hx hb d_Mo_isSpan_20 (by decide) ?_
        obtain ⟨hz, hv⟩ := hv
        exact gk_zret hx hb hr hlocks (gk_nz hz) hK hP hD hS hv d_Mo_isSpan_21
      · replace hv := hv.2 hc
        refine lv_iconst (v := 1) hx hb d_Mo_isSpan_16 (by decide) ?_
        refine lv_goto (tgt := 21) hx hb d_Mo_isSpan_17 (by decide) ?_
        obtain ⟨hz, hv⟩ := hv
        exact gk_zret hx hb hr hlocks (gk_nz hz) hK hP hD hS hv d_Mo_isSpan_21
theorem d_Mo_person_0 : decode b_Mo_person 0 = .ok (.iload_n 1, 1) := by decide +kernel
theorem d_Mo_person_1 : decode b_Mo_person 1 = .ok (.iconst 1, 1) := by decide +kernel
theorem d_Mo_person_2 : decode b_Mo_person 2 = .ok (.iconst 5, 1) := by decide +kernel
theorem d_Mo_person_3 : decode b_Mo_person 3 = .ok (.invokestatic 71, 3) := by decide +kernel
theorem d_Mo_person_6 : decode b_Mo_person 6 = .ok (.ifCond .eq 19, 3) := by decide +kernel
theorem d_Mo_person_9 : decode b_Mo_person 9 = .ok (.iload_n 2, 1) := by decide +kernel
theorem d_Mo_person_10 : decode b_Mo_person 10 = .ok (.iload_n 3, 1) := by decide +kernel
theorem d_Mo_person_11 : decode b_Mo_person 11 = .ok (.invokestatic 75, 3) := by decide +kernel
theorem d_Mo_person_14 : decode b_Mo_person 14 = .ok (.ifCond .eq 11, 3) := by decide +kernel
theorem d_Mo_person_17 : decode b_Mo_person 17 = .ok (.iload 4, 2) := by decide +kernel
theorem d_Mo_person_19 : decode b_Mo_person 19 = .ok (.invokestatic 79, 3) := by decide +kernel
theorem d_Mo_person_22 : decode b_Mo_person 22 = .ok (.ifCond .ne 9, 3) := by decide +kernel
theorem d_Mo_person_25 : decode b_Mo_person 25 = .ok (.aload_n 0, 1) := by decide +kernel
theorem d_Mo_person_26 : decode b_Mo_person 26 = .ok (.iconst 1, 1) := by decide +kernel
theorem d_Mo_person_27 : decode b_Mo_person 27 = .ok (.invokevirtual 83, 3) := by decide +kernel
theorem d_Mo_person_30 : decode b_Mo_person 30 = .ok (.ireturn, 1) := by decide +kernel
theorem d_Mo_person_31 : decode b_Mo_person 31 = .ok (.aload_n 0, 1) := by decide +kernel
theorem d_Mo_person_32 : decode b_Mo_person 32 = .ok (.getfield 65, 3) := by decide +kernel
theorem d_Mo_person_35 : decode b_Mo_person 35 = .ok (.iconst 4, 1) := by decide +kernel
theorem d_Mo_person_36 : decode b_Mo_person 36 = .ok (.if_icmp .ne 9, 3) := by decide +kernel
theorem d_Mo_person_39 : decode b_Mo_person 39 = .ok (.aload_n 0, 1) := by decide +kernel
theorem d_Mo_person_40 : decode b_Mo_person 40 = .ok (.iconst 2, 1) := by decide +kernel
theorem d_Mo_person_41 : decode b_Mo_person 41 = .ok (.invokevirtual 83, 3) := by decide +kernel
theorem d_Mo_person_44 : decode b_Mo_person 44 = .ok (.ireturn, 1) := by decide +kernel
theorem d_Mo_person_45 : decode b_Mo_person 45 = .ok (.aload_n 0, 1) := by decide +kernel
theorem d_Mo_person_46 : decode b_Mo_person 46 = .ok (.iconst 0, 1) := by decide +kernel
theorem d_Mo_person_47 : decode b_Mo_person 47 = .ok (.putfield 61, 3) := by decide +kernel
theorem d_Mo_person_50 : decode b_Mo_person 50 = .ok (.aload_n 0, 1) := by decide +kernel
theorem d_Mo_person_51 : decode b_Mo_person 51 = .ok (.getfield 7, 3) := by decide +kernel
theorem d_Mo_person_54 : decode b_Mo_person 54 = .ok (.aload_n 0, 1) := by decide +kernel
theorem d_Mo_person_55 : decode b_Mo_person 55 = .ok (.getfield 65, 3) := by decide +kernel
theorem d_Mo_person_58 : decode b_Mo_person 58 = .ok (.iload_n 1, 1) := by decide +kernel
theorem d_Mo_person_59 : decode b_Mo_person 59 = .ok (.iastore, 1) := by decide +kernel
theorem d_Mo_person_60 : decode b_Mo_person 60 = .ok (.aload_n 0, 1) := by decide +kernel
theorem d_Mo_person_61 : decode b_Mo_person 61 = .ok (.getfield 13, 3) := by decide +kernel
theorem d_Mo_person_64 : decode b_Mo_person 64 = .ok (.aload_n 0, 1) := by decide +kernel
theorem d_Mo_person_65 : decode b_Mo_person 65 = .ok (.getfield 65, 3) := by decide +kernel
theorem d_Mo_person_68 : decode b_Mo_person 68 = .ok (.iload_n 2, 1) := by decide +kernel
theorem d_Mo_person_69 : decode b_Mo_person 69 = .ok (.iastore, 1) := by decide +kernel
theorem d_Mo_person_70 : decode b_Mo_person 70 = .ok (.aload_n 0, 1) := by decide +kernel
theorem d_Mo_person_71 : decode b_Mo_person 71 = .ok (.getfield 16, 3) := by decide +kernel
theorem d_Mo_person_74 : decode b_Mo_person 74 = .ok (.aload_n 0, 1) := by decide +kernel
theorem d_Mo_person_75 : decode b_Mo_person 75 = .ok (.getfield 65, 3) := by decide +kernel
theorem d_Mo_person_78 : decode b_Mo_person 78 = .ok (.iload_n 3, 1) := by decide +kernel
theorem d_Mo_person_79 : decode b_Mo_person 79 = .ok (.iastore, 1) := by decide +kernel
theorem d_Mo_person_80 : decode b_Mo_person 80 = .ok (.aload_n 0, 1) := by decide +kernel
theorem d_Mo_person_81 : decode b_Mo_person 81 = .ok (.getfield 19, 3) := by decide +kernel
theorem d_Mo_person_84 : decode b_Mo_person 84 = .ok (.aload_n 0, 1) := by decide +kernel
theorem d_Mo_person_85 : decode b_Mo_person 85 = .ok (.getfield 65, 3) := by decide +kernel
theorem d_Mo_person_88 : decode b_Mo_person 88 = .ok (.iload 4, 2) := by decide +kernel
theorem d_Mo_person_90 : decode b_Mo_person 90 = .ok (.iastore, 1) := by decide +kernel
theorem d_Mo_person_91 : decode b_Mo_person 91 = .ok (.aload_n 0, 1) := by decide +kernel
theorem d_Mo_person_92 : decode b_Mo_person 92 = .ok (.dup, 1) := by decide +kernel
theorem d_Mo_person_93 : decode b_Mo_person 93 = .ok (.getfield 65, 3) := by decide +kernel
theorem d_Mo_person_96 : decode b_Mo_person 96 = .ok (.iconst 1, 1) := by decide +kernel
theorem d_Mo_person_97 : decode b_Mo_person 97 = .ok (.iadd, 1) := by decide +kernel
theorem d_Mo_person_98 : decode b_Mo_person 98 = .ok (.putfield 65, 3) := by decide +kernel
theorem d_Mo_person_101 : decode b_Mo_person 101 = .ok (.aload_n 0, 1) := by decide +kernel
theorem d_Mo_person_102 : decode b_Mo_person 102 = .ok (.iconst 0, 1) := by decide +kernel
theorem d_Mo_person_103 : decode b_Mo_person 103 = .ok (.putfield 87, 3) := by decide +kernel
theorem d_Mo_person_106 : decode b_Mo_person 106 = .ok (.aload_n 0, 1) := by decide +kernel
theorem d_Mo_person_107 : decode b_Mo_person 107 = .ok (.getfield 65, 3) := by decide +kernel
theorem d_Mo_person_110 : decode b_Mo_person 110 = .ok (.iconst 1, 1) := by decide +kernel
theorem d_Mo_person_111 : decode b_Mo_person 111 = .ok (.isub, 1) := by decide +kernel
theorem d_Mo_person_112 : decode b_Mo_person 112 = .ok (.ireturn, 1) := by decide +kernel
def s_Mo_person_0 (P_Mo_in : MI → ML → Int32 → Int32 → Int32 → Prop) (Q_Mo_in : MI → ML → Int32 → Int32 → Int32 → Int32 → MI → ML → Prop) (P_Mo_refuse : MI → ML → Int32 → Prop) (Q_Mo_refuse : MI → ML → Int32 → Int32 → MI → ML → Prop) (P_Mo_isSpan : MI → ML → Int32 → Int32 → Prop) (Q_Mo_isSpan : MI → ML → Int32 → Int32 → Int32 → MI → ML → Prop) (P_Mo_isPlace : MI → ML → Int32 → Prop) (Q_Mo_isPlace : MI → ML → Int32 → Int32 → MI → ML → Prop) (σ : MI) (τ : ML) (a1 : Int32) (a2 : Int32) (a3 : Int32) (a4 : Int32) (R : Int32 → MI → ML → Prop) : Prop :=
  P_Mo_in σ τ a1 1 5 ∧ ∀ (r3 : Int32) (s3 : MI) (t3 : ML), Q_Mo_in σ τ a1 1 5 r3 s3 t3 → ((r3 = 0 →
  (P_Mo_refuse s3 t3 1 ∧ ∀ (r27 : Int32) (s27 : MI) (t27 : ML), Q_Mo_refuse s3 t3 1 r27 s27 t27 → (R r27 s27 t27))) ∧
  (¬ r3 = 0 →
  (P_Mo_isSpan s3 t3 a2 a3 ∧ ∀ (r11 : Int32) (s11 : MI) (t11 : ML), Q_Mo_isSpan s3 t3 a2 a3 r11 s11 t11 → ((r11 = 0 →
    (P_Mo_refuse s11 t11 1 ∧ ∀ (r27 : Int32) (s27 : MI) (t27 : ML), Q_Mo_refuse s11 t11 1 r27 s27 t27 → (R r27 s27 t27))) ∧
    (¬ r11 = 0 →
    (P_Mo_isPlace s11 t11 a4 ∧ ∀ (r19 : Int32) (s19 : MI) (t19 : ML), Q_Mo_isPlace s11 t11 a4 r19 s19 t19 → ((¬ r19 = 0 →
      ((¬ (s19 29 1) = 4 →
        (∀ s47 : MI, s47 = st2 s19 29 0 0 → (vp_in (s47 29 1) 4 ∧ (∀ s59 : MI, s59 = st2 s47 30 (Int32.toNatClampNeg (s47 29 1)) a1 → (vp_in (s59 29 1) 4 ∧ (∀ s69 : MI, s69 = st2 s59 31 (Int32.toNatClampNeg (s59 29 1)) a2 → (vp_in (s69 29 1) 4 ∧ (∀ s79 : MI, s79 = st2 s69 32 (Int32.toNatClampNeg (s69 29 1)) a3 → (vp_in (s79 29 1) 4 ∧ (∀ s90 : MI, s90 = st2 s79 33 (Int32.toNatClampNeg (s79 29 1)) a4 → (∀ s98 : MI, s98 = st2 s90 29 1 ((s90 29 1) + 1) → (∀ s103 : MI, s103 = st2 s98 29 18 0 → (R ((s103 29 1) - 1) s103 t19))))))))))))) ∧
        ((s19 29 1) = 4 →
        (P_Mo_refuse s19 t19 2 ∧ ∀ (r41 : Int32) (s41 : MI) (t41 : ML), Q_Mo_refuse s19 t19 2 r41 s41 t41 → (R r41 s41 t41))))) ∧
      (r19 = 0 →
      (P_Mo_refuse s19 t19 1 ∧ ∀ (r27 : Int32) (s27 : MI) (t27 : ML), Q_Mo_refuse s19 t19 1 r27 s27 t27 → (R r27 s27 t27))))))))))
set_option maxHeartbeats 4000000 in
set_option maxRecDepth 100000 in
theorem k_Mo_person (l : Launch) (D : va_G) (ad : Nat → Nat) (ci cl : ClassId)
    (pre : MI → ML → Int32 → Int32 → Int32 → Int32 → Prop) (post : MI → ML → Int32 → Int32 → Int32 → Int32 → Int32 → MI → ML → Prop) (P_Mo_in : MI → ML → Int32 → Int32 → Int32 → Prop) (Q_Mo_in : MI → ML → Int32 → Int32 → Int32 → Int32 → MI → ML → Prop) (P_Mo_refuse : MI → ML → Int32 → Prop) (Q_Mo_refuse : MI → ML → Int32 → Int32 → MI → ML → Prop) (P_Mo_isSpan : MI → ML → Int32 → Int32 → Prop) (Q_Mo_isSpan : MI → ML → Int32 → Int32 → Int32 → MI → ML → Prop) (P_Mo_isPlace : MI → ML → Int32 → Prop) (Q_Mo_isPlace : MI → ML → Int32 → Int32 → MI → ML → Prop)
    (h_Mo_in : ∀ (sz : Nat) (σ : MI) (τ : ML) (b0 : Int32) (b1 : Int32) (b2 : Int32), P_Mo_in σ τ b0 b1 b2 → gMi l D (xw ad ci cl) (xt ci cl) (xa ad) y_Mo_in w_Mo_in rm_Mo_in [.int b0, .int b1, .int b2] sz σ τ (Q_Mo_in σ τ b0 b1 b2))
    (h_Mo_refuse : ∀ (sz : Nat) (σ : MI) (τ : ML) (b0 : Int32), P_Mo_refuse σ τ b0 → gMi l D (xw ad ci cl) (xt ci cl) (xa ad) y_Mo_refuse w_Mo_refuse rm_Mo_refuse [.ref (ad 29), .int b0] sz σ τ (Q_Mo_refuse σ τ b0))
    (h_Mo_isSpan : ∀ (sz : Nat) (σ : MI) (τ : ML) (b0 : Int32) (b1 : Int32), P_Mo_isSpan σ τ b0 b1 → gMi l D (xw ad ci cl) (xt ci cl) (xa ad) y_Mo_isSpan w_Mo_isSpan rm_Mo_isSpan [.int b0, .int b1] sz σ τ (Q_Mo_isSpan σ τ b0 b1))
    (h_Mo_isPlace : ∀ (sz : Nat) (σ : MI) (τ : ML) (b0 : Int32), P_Mo_isPlace σ τ b0 → gMi l D (xw ad ci cl) (xt ci cl) (xa ad) y_Mo_isPlace w_Mo_isPlace rm_Mo_isPlace [.int b0] sz σ τ (Q_Mo_isPlace σ τ b0))
    (v0 : ∀ (σ0 : MI) (τ0 : ML) (a1 : Int32) (a2 : Int32) (a3 : Int32) (a4 : Int32), pre σ0 τ0 a1 a2 a3 a4 → s_Mo_person_0 P_Mo_in Q_Mo_in P_Mo_refuse Q_Mo_refuse P_Mo_isSpan Q_Mo_isSpan P_Mo_isPlace Q_Mo_isPlace σ0 τ0 a1 a2 a3 a4 (post σ0 τ0 a1 a2 a3 a4)) :
    ∀ (sz : Nat) (σ0 : MI) (τ0 : ML) (a1 : Int32) (a2 : Int32) (a3 : Int32) (a4 : Int32), pre σ0 τ0 a1 a2 a3 a4 → gMi l D (xw ad ci cl) (xt ci cl) (xa ad) y_Mo_person w_Mo_person rm_Mo_person [.ref (ad 29), .int a1, .int a2, .int a3, .int a4] sz σ0 τ0 (post σ0 τ0 a1 a2 a3 a4) := by
  intro sz σ0 τ0 a1 a2 a3 a4 hpre
  refine gk_ofWi (cc := b_Mo_person) (maxL := 5) (ret := (some .int)) (by decide) rfl xa_ok (Nat.le_of_ble_eq_true rfl) ?_
  intro p e s m below meth c ls hx hb hr hlocks hml hown hts hK hP hD hS hl
  have hl : lv_has ls 5 [(0, .ref (ad 29)), (1, .int a1), (2, .int a2), (3, .int a3), (4, .int a4)] := hl
  have hown : s.vm.findClass R_Mo = some m.cls := hown
  have hv := v0 σ0 τ0 a1 a2 a3 a4 hpre
  unfold s_Mo_person_0 at hv
  refine lv_iload_n hx hb d_Mo_person_0 rfl (lv_at hl 1 rfl) ?_
  refine lv_iconst (v := 1) hx hb d_Mo_person_1 (by decide) ?_
  refine lv_iconst (v := 5) hx hb d_Mo_person_2 (by decide) ?_
  obtain ⟨hg, hv⟩ := hv
  refine gk_callSi (As := [.int a1, .int 1, .int 5]) (rest := []) ⟨hx, hb, hml, hown, hts⟩ (h_Mo_in _ σ0 τ0 a1 1 5 hg) (gk_cwS 3 hts t_w253 rfl rfl rfl (hts _ t_w250) (hts _ t_w251) (hts _ t_w252) (by decide +kernel) ⟨Nat.le_of_ble_eq_true rfl, Nat.le_of_ble_eq_true rfl⟩) hK hP hD hS rfl hl.1 rfl (lv_room (Nat.le_of_ble_eq_true rfl)) d_Mo_person_3 ⟨Nat.zero_le _, Nat.zero_le _⟩ ?_
  intro r3 s3 t3 H locs hw hP hD hS
  replace hv := hv r3 s3 t3 hw
  refine lv_if_eq (tgt := 25) hx hb d_Mo_person_6 (by decide) (fun hc => ?_) (fun hc => ?_)
  · replace hv := hv.1 hc
    refine lv_aload_n hx hb d_Mo_person_25 rfl (lv_at hl 0 rfl) ?_
    refine lv_iconst (v := 1) hx hb d_Mo_person_26 (by decide) ?_
    obtain ⟨hg, hv⟩ := hv
    refine gk_callVi (As := [.int 1]) (rest := []) (b := ad 29) ⟨hx, hb, hml, hown, hts⟩ (h_Mo_refuse _ s3 t3 1 hg) (gk_cwV 1 hts t_w257 rfl rfl rfl (hts _ t_w254) (hts _ t_w255) (hts _ t_w256) (hts _ t_w252) (by decide +kernel) ⟨Nat.le_of_ble_eq_true rfl, Nat.le_of_ble_eq_true rfl⟩) hK hP hD hS (va_recv hK hP (ci := 7) (q0 := 29) rfl rfl) rfl hl.1 rfl (lv_room (Nat.le_of_ble_eq_true rfl)) d_Mo_person_27 ⟨Nat.zero_le _, Nat.zero_le _⟩ ?_
    intro r27 s27 t27 H locs hw hP hD hS
    replace hv := hv r27 s27 t27 hw
    exact gk_iret hx hb hr hlocks hK hP hD hS hv d_Mo_person_30
  · replace hv := hv.2 hc
    refine lv_iload_n hx hb d_Mo_person_9 rfl (lv_at hl 2 rfl) ?_
    refine lv_iload_n hx hb d_Mo_person_10 rfl (lv_at hl 3 rfl) ?_
    obtain ⟨hg, hv⟩ := hv
    refine gk_callSi (As := [.int a2, .int a3]) (rest := []) ⟨hx, hb, hml, hown, hts⟩ (h_Mo_isSpan _ s3 t3 a2 a3 hg) (gk_cwS 2 hts t_w260 rfl rfl rfl (hts _ t_w258) (hts _ t_w259) (hts _ t_w252) (by decide +kernel) ⟨Nat.le_of_ble_eq_true rfl, Nat.le_of_ble_eq_true rfl⟩) hK hP hD hS rfl hl.1 rfl (lv_room (Nat.le_of_ble_eq_true rfl)) d_Mo_person_11 ⟨Nat.zero_le _, Nat.zero_le _⟩ ?_
    intro r11 s11 t11 H locs hw hP hD hS
    replace hv := hv r11 s11 t11 hw
    refine lv_if_eq (tgt := 25) hx hb d_Mo_person_14 (by decide) (fun hc => ?_) (fun hc => ?_)
    · replace hv := hv.1 hc
      refine lv_aload_n hx hb d_Mo_person_25 rfl (lv_at hl 0 rfl) ?_
      refine lv_iconst (v := 1) hx hb d_Mo_person_26 (by decide) ?_
      obtain ⟨hg, hv⟩ := hv
      refine gk_callVi (As := [.int 1]) (rest := []) (b := ad 29) ⟨hx, hb, hml, hown, hts⟩ (h_Mo_refuse _ s11 t11 1 hg) (gk_cwV 1 hts t_w257 rfl rfl rfl (hts _ t_w254) (hts _ t_w255) (hts _ t_w256) (hts _ t_w252) (by decide +kernel) ⟨Nat.le_of_ble_eq_true rfl, Nat.le_of_ble_eq_true rfl⟩) hK hP hD hS (va_recv hK hP (ci := 7) (q0 := 29) rfl rfl) rfl hl.1 rfl (lv_room (Nat.le_of_ble_eq_true rfl)) d_Mo_person_27 ⟨Nat.zero_le _, Nat.zero_le _⟩ ?_
      intro r27 s27 t27 H locs hw hP hD hS
      replace hv := hv r27 s27 t27 hw
      exact gk_iret hx hb hr hlocks hK hP hD hS hv d_Mo_person_30
    · replace hv := hv.2 hc
      refine lv_iload hx hb d_Mo_person_17 (lv_at hl 4 rfl) ?_
      obtain ⟨hg, hv⟩ := hv
      refine gk_callSi (As := [.int a4]) (rest := []) ⟨hx, hb, hml, hown, hts⟩ (h_Mo_isPlace _ s11 t11 a4 hg) (gk_cwS 1 hts t_w263 rfl rfl rfl (hts _ t_w261) (hts _ t_w262) (hts _ t_w252) (by decide +kernel) ⟨Nat.le_of_ble_eq_true rfl, Nat.le_of_ble_eq_true rfl⟩) hK hP hD hS rfl hl.1 rfl (lv_room (Nat.le_of_ble_eq_true rfl)) d_Mo_person_19 ⟨Nat.zero_le _, Nat.zero_le _⟩ ?_
      intro r19 s19 t19 H locs hw hP hD hS
      replace hv := hv r19 s19 t19 hw
      refine lv_if_ne (tgt := 31) hx hb d_Mo_person_22 (by decide) (fun hc => ?_) (fun hc => ?_)
      · replace hv := hv.1 hc
        refine lv_aload_n hx hb d_Mo_person_31 rfl (lv_at hl 0 rfl) ?_
        refine va_get (D := D) (ci := 7) (v := .int (s19 29 1)) (C := R_Mo) (T := F_Mo) (N := 24) hx hb hts iw_Mo hown hK hP 29 rfl rfl 1 (by decide) (hts _ t_w248) (fun _ h9 => h9) rfl d_Mo_person_32 ?_
        refine lv_iconst (v := 4) hx hb d_Mo_person_35 (by decide) ?_
        refine lv_icmp_ne (tgt := 45) hx hb d_Mo_person_36 (by decide) (fun hc => ?_) (fun hc => ?_)
        · replace hv := hv.1 hc
          refine lv_aload_n hx hb d_Mo_person_45 rfl (lv_at hl 0 rfl) ?_
          refine lv_iconst (v := 0) hx hb d_Mo_person_46 (by decide) ?_
          refine va_put (D := D) (ci := 7) (v := .int 0) (ty := .int) (fs := [.int (s19 29 0), .int (s19 29 1), .ref (ad 30), .ref (ad 31), .ref (ad 32), .ref (ad 33), .ref (ad 34), .ref (ad 35), .int (s19 29 8), .ref (ad 36), .int (s19 29 10), .ref (ad 37), .ref (ad 38), .ref (ad 39), .ref (ad 40), .ref (ad 41), .ref (ad 42), .int (s19 29 17), .int (s19 29 18), .ref (ad 43), .ref (ad 44), .int (s19 29 21), .ref (ad 45), .ref (ad 46)]) (C := R_Mo) (T := F_Mo) (N := 24) hx hb hts iw_Mo ty_Mo ty_Mo_ok nn_Mo hown hK hP hD hS 29 rfl rfl 0 (by decide) (hts _ t_w247) (fun _ h9 => h9) rfl (by decide +kernel) rfl rfl (Nat.le_of_ble_eq_true rfl) d_Mo_person_47 (fun H locs hP hD hS => ?_)
          rw [xf_29_0] at hP hD
          obtain ⟨s47, es47⟩ : ∃ z : MI, z = st2 s19 29 0 0 := ⟨_, rfl⟩
          rw [← es47] at hP hD
          replace hv := hv s47 es47
          refine lv_aload_n hx hb d_Mo_person_50 rfl (lv_at hl 0 rfl) ?_
          refine va_get (D := D) (ci := 7) (v := .ref (ad 30)) (C := R_Mo) (T := F_Mo) (N := 24) hx hb hts iw_Mo hown hK hP 29 rfl rfl 2 (by decide) (hts _ t_w264) (fun _ h9 => h9) rfl d_Mo_person_51 ?_
          refine lv_aload_n hx hb d_Mo_person_54 rfl (lv_at hl 0 rfl) ?_
          refine va_get (D := D) (ci := 7) (v := .int (s47 29 1)) (C := R_Mo) (T := F_Mo) (N := 24) hx hb hts iw_Mo hown hK hP 29 rfl rfl 1 (by decide) (hts _ t_w248) (fun _ h9 => h9) rfl d_Mo_person_55 ?_
          refine lv_iload_n hx hb d_Mo_person_58 rfl (lv_at hl 1 rfl) ?_
          obtain ⟨hi, hv⟩ := hv
          refine va_iast hx hb hK hP hD hS 30 0 rfl rfl hi d_Mo_person_59 (fun H locs hP hD hS => ?_)
          rw [xa_30] at hP hD
          obtain ⟨s59, es59⟩ : ∃ z : MI, z = st2 s47 30 (Int32.toNatClampNeg (s47 29 1)) a1 := ⟨_, rfl⟩
          rw [← es59] at hP hD
          replace hv := hv s59 es59
          refine lv_aload_n hx hb d_Mo_person_60 rfl (lv_at hl 0 rfl) ?_
          refine va_get (D := D) (ci := 7) (v := .ref (ad 31)) (C := R_Mo) (T := F_Mo) (N := 24) hx hb hts iw_Mo hown hK hP 29 rfl rfl 3 (by decide) (hts _ t_w265) (fun _ h9 => h9) rfl d_Mo_person_61 ?_
          refine lv_aload_n hx hb d_Mo_person_64 rfl (lv_at hl 0 rfl) ?_
          refine va_get (D := D) (ci := 7) (v := .int (s59 29 1)) (C := R_Mo) (T := F_Mo) (N := 24) hx hb hts iw_Mo hown hK hP 29 rfl rfl 1 (by decide) (hts _ t_w248) (fun _ h9 => h9) rfl d_Mo_person_65 ?_
          refine lv_iload_n hx hb d_Mo_person_68 rfl (lv_at hl 2 rfl) ?_
          obtain ⟨hi, hv⟩ := hv
          refine va_iast hx hb hK hP hD hS 31 0 rfl rfl hi d_Mo_person_69 (fun H locs hP hD hS => ?_)
          rw [xa_31] at hP hD
          obtain ⟨s69, es69⟩ : ∃ z : MI, z = st2 s59 31 (Int32.toNatClampNeg (s59 29 1)) a2 := ⟨_, rfl⟩
          rw [← es69] at hP hD
          replace hv := hv s69 es69
          refine lv_aload_n hx hb d_Mo_person_70 rfl (lv_at hl 0 rfl) ?_
          refine va_get (D := D) (ci := 7) (v := .ref (ad 32)) (C := R_Mo) (T := F_Mo) (N := 24) hx hb hts iw_Mo hown hK hP 29 rfl rfl 4 (by decide) (hts _ t_w266) (fun _ h9 => h9) rfl d_Mo_person_71 ?_
          refine lv_aload_n hx hb d_Mo_person_74 rfl (lv_at hl 0 rfl) ?_
          refine va_get (D := D) (ci := 7) (v := .int (s69 29 1)) (C := R_Mo) (T := F_Mo) (N := 24) hx hb hts iw_Mo hown hK hP 29 rfl rfl 1 (by decide) (hts _ t_w248) (fun _ h9 => h9) rfl d_Mo_person_75 ?_
          refine lv_iload_n hx hb d_Mo_person_78 rfl (lv_at hl 3 rfl) ?_
          obtain ⟨hi, hv⟩ := hv
          refine va_iast hx hb hK hP hD hS 32 0 rfl rfl hi d_Mo_person_79 (fun H locs hP hD hS => ?_)
          rw [xa_32] at hP hD
          obtain ⟨s79, es79⟩ : ∃ z : MI, z = st2 s69 32 (Int32.toNatClampNeg (s69 29 1)) a3 := ⟨_, rfl⟩
          rw [← es79] at hP hD
          replace hv := hv s79 es79
          refine lv_aload_n hx hb d_Mo_person_80 rfl (lv_at hl 0 rfl) ?_
          refine va_get (D := D) (ci := 7) (v := .ref (ad 33)) (C := R_Mo) (T := F_Mo) (N := 24) hx hb hts iw_Mo hown hK hP 29 rfl rfl 5 (by decide) (hts _ t_w267) (fun _ h9 => h9) rfl d_Mo_person_81 ?_
          refine lv_aload_n hx hb d_Mo_person_84 rfl (lv_at hl 0 rfl) ?_
          refine va_get (D := D) (ci := 7) (v := .int (s79 29 1)) (C := R_Mo) (T := F_Mo) (N := 24) hx hb hts iw_Mo hown hK hP 29 rfl rfl 1 (by decide) (hts _ t_w248) (fun _ h9 => h9) rfl d_Mo_person_85 ?_
          refine lv_iload hx hb d_Mo_person_88 (lv_at hl 4 rfl) ?_
          obtain ⟨hi, hv⟩ := hv
          refine va_iast hx hb hK hP hD hS 33 0 rfl rfl hi d_Mo_person_90 (fun H locs hP hD hS => ?_)
          rw [xa_33] at hP hD
          obtain ⟨s90, es90⟩ : ∃ z : MI, z = st2 s79 33 (Int32.toNatClampNeg (s79 29 1)) a4 := ⟨_, rfl⟩
          rw [← es90] at hP hD
          replace hv := hv s90 es90
          refine lv_aload_n hx hb d_Mo_person_91 rfl (lv_at hl 0 rfl) ?_
          refine lv_dup hx hb d_Mo_person_92 rfl ?_
          refine va_get (D := D) (ci := 7) (v := .int (s90 29 1)) (C := R_Mo) (T := F_Mo) (N := 24) hx hb hts iw_Mo hown hK hP 29 rfl rfl 1 (by decide) (hts _ t_w248) (fun _ h9 => h9) rfl d_Mo_person_93 ?_
          refine lv_iconst (v := 1) hx hb d_Mo_person_96 (by decide) ?_
          refine lv_iadd hx hb d_Mo_person_97 ?_
          refine va_put (D := D) (ci := 7) (v := .int ((s90 29 1) + 1)) (ty := .int) (fs := [.int (s90 29 0), .int (s90 29 1), .ref (ad 30), .ref (ad 31), .ref (ad 32), .ref (ad 33), .ref (ad 34), .ref (ad 35), .int (s90 29 8), .ref (ad 36), .int (s90 29 10), .ref (ad 37), .ref (ad 38), .ref (ad 39), .ref (ad 40), .ref (ad 41), .ref (ad 42), .int (s90 29 17), .int (s90 29 18), .ref (ad 43), .ref (ad 44), .int (s90 29 21), .ref (ad 45), .ref (ad 46)]) (C := R_Mo) (T := F_Mo) (N := 24) hx hb hts iw_Mo ty_Mo ty_Mo_ok nn_Mo hown hK hP hD hS 29 rfl rfl 1 (by decide) (hts _ t_w248) (fun _ h9 => h9) rfl (by decide +kernel) rfl rfl (Nat.le_of_ble_eq_true rfl) d_Mo_person_98 (fun H locs hP hD hS => ?_)
          rw [xf_29_1] at hP hD
          obtain ⟨s98, es98⟩ : ∃ z : MI, z = st2 s90 29 1 ((s90 29 1) + 1) := ⟨_, rfl⟩
          rw [← es98] at hP hD
          replace hv := hv s98 es98
          refine lv_aload_n hx hb d_Mo_person_101 rfl (lv_at hl 0 rfl) ?_
          refine lv_iconst (v := 0) hx hb d_Mo_person_102 (by decide) ?_
          refine va_put (D := D) (ci := 7) (v := .int 0) (ty := .boolean) (fs := [.int (s98 29 0), .int (s98 29 1), .ref (ad 30), .ref (ad 31), .ref (ad 32), .ref (ad 33), .ref (ad 34), .ref (ad 35), .int (s98 29 8), .ref (ad 36), .int (s98 29 10), .ref (ad 37), .ref (ad 38), .ref (ad 39), .ref (ad 40), .ref (ad 41), .ref (ad 42), .int (s98 29 17), .int (s98 29 18), .ref (ad 43), .ref (ad 44), .int (s98 29 21), .ref (ad 45), .ref (ad 46)]) (C := R_Mo) (T := F_Mo) (N := 24) hx hb hts iw_Mo ty_Mo ty_Mo_ok nn_Mo hown hK hP hD hS 29 rfl rfl 18 (by decide) (hts _ t_w268) (fun _ h9 => h9) rfl (by decide +kernel) rfl rfl (Nat.le_of_ble_eq_true rfl) d_Mo_person_103 (fun H locs hP hD hS => ?_)
          rw [xf_29_18] at hP hD
          obtain ⟨s103, es103⟩ : ∃ z : MI, z = st2 s98 29 18 0 := ⟨_, rfl⟩
          rw [← es103] at hP hD
          replace hv := hv s103 es103
          refine lv_aload_n hx hb d_Mo_person_106 rfl (lv_at hl 0 rfl) ?_
          refine va_get (D := D) (ci := 7) (v := .int (s103 29 1)) (C := R_Mo) (T := F_Mo) (N := 24) hx hb hts iw_Mo hown hK hP 29 rfl rfl 1 (by decide) (hts _ t_w248) (fun _ h9 => h9) rfl d_Mo_person_107 ?_
          refine lv_iconst (v := 1) hx hb d_Mo_person_110 (by decide) ?_
          refine lv_isub hx hb d_Mo_person_111 ?_
          exact gk_iret hx hb hr hlocks hK hP hD hS hv d_Mo_person_112
        · replace hv := hv.2 hc
          refine lv_aload_n hx hb d_Mo_person_39 rfl (lv_at hl 0 rfl) ?_
          refine lv_iconst (v := 2) hx hb d_Mo_person_40 (by decide) ?_
          obtain ⟨hg, hv⟩ := hv
          refine gk_callVi (As := [.int 2]) (rest := []) (b := ad 29) ⟨hx, hb, hml, hown, hts⟩ (h_Mo_refuse _ s19 t19 2 hg) (gk_cwV 1 hts t_w257 rfl rfl rfl (hts _ t_w254) (hts _ t_w255) (hts _ t_w256) (hts _ t_w252) (by decide +kernel) ⟨Nat.le_of_ble_eq_true rfl, Nat.le_of_ble_eq_true rfl⟩) hK hP hD hS (va_recv hK hP (ci := 7) (q0 := 29) rfl rfl) rfl hl.1 rfl (lv_room (Nat.le_of_ble_eq_true rfl)) d_Mo_person_41 ⟨Nat.zero_le _, Nat.zero_le _⟩ ?_
          intro r41 s41 t41 H locs hw hP hD hS
          replace hv := hv r41 s41 t41 hw
          exact gk_iret hx hb hr hlocks hK hP hD hS hv d_Mo_person_44
      · replace hv := hv.2 hc
        refine lv_aload_n hx hb d_Mo_person_25 rfl (lv_at hl 0 rfl) ?_
        refine lv_iconst (v := 1) hx hb d_Mo_person_26 (by decide) ?_
        obtain ⟨hg, hv⟩ := hv
        refine gk_callVi (As := [.int 1]) (rest := []) (b := ad 29) ⟨hx, hb, hml, hown, hts⟩ (h_Mo_refuse _ s19 t19 1 hg) (gk_cwV 1 hts t_w257 rfl rfl rfl (hts _ t_w254) (hts _ t_w255) (hts _ t_w256) (hts _ t_w252) (by decide +kernel) ⟨Nat.le_of_ble_eq_true rfl, Nat.le_of_ble_eq_true rfl⟩) hK hP hD hS (va_recv hK hP (ci := 7) (q0 := 29) rfl rfl) rfl hl.1 rfl (lv_room (Nat.le_of_ble_eq_true rfl)) d_Mo_person_27 ⟨Nat.zero_le _, Nat.zero_le _⟩ ?_
        intro r27 s27 t27 H locs hw hP hD hS
        replace hv := hv r27 s27 t27 hw
        exact gk_iret hx hb hr hlocks hK hP hD hS hv d_Mo_person_30
theorem d_Mo_tug_0 : decode b_Mo_tug 0 = .ok (.iload_n 1, 1) := by decide +kernel
theorem d_Mo_tug_1 : decode b_Mo_tug 1 = .ok (.iconst 1, 1) := by decide +kernel
theorem d_Mo_tug_2 : decode b_Mo_tug 2 = .ok (.bipush 100, 2) := by decide +kernel
theorem d_Mo_tug_4 : decode b_Mo_tug 4 = .ok (.invokestatic 71, 3) := by decide +kernel
theorem d_Mo_tug_7 : decode b_Mo_tug 7 = .ok (.ifCond .ne 9, 3) := by decide +kernel
theorem d_Mo_tug_10 : decode b_Mo_tug 10 = .ok (.aload_n 0, 1) := by decide +kernel
theorem d_Mo_tug_11 : decode b_Mo_tug 11 = .ok (.iconst 1, 1) := by decide +kernel
theorem d_Mo_tug_12 : decode b_Mo_tug 12 = .ok (.invokevirtual 83, 3) := by decide +kernel
theorem d_Mo_tug_15 : decode b_Mo_tug 15 = .ok (.ireturn, 1) := by decide +kernel
theorem d_Mo_tug_16 : decode b_Mo_tug 16 = .ok (.aload_n 0, 1) := by decide +kernel
theorem d_Mo_tug_17 : decode b_Mo_tug 17 = .ok (.getfield 91, 3) := by decide +kernel
theorem d_Mo_tug_20 : decode b_Mo_tug 20 = .ok (.bipush 6, 2) := by decide +kernel
theorem d_Mo_tug_22 : decode b_Mo_tug 22 = .ok (.if_icmp .ne 9, 3) := by decide +kernel
theorem d_Mo_tug_25 : decode b_Mo_tug 25 = .ok (.aload_n 0, 1) := by decide +kernel
theorem d_Mo_tug_26 : decode b_Mo_tug 26 = .ok (.iconst 2, 1) := by decide +kernel
theorem d_Mo_tug_27 : decode b_Mo_tug 27 = .ok (.invokevirtual 83, 3) := by decide +kernel
theorem d_Mo_tug_30 : decode b_Mo_tug 30 = .ok (.ireturn, 1) := by decide +kernel
theorem d_Mo_tug_31 : decode b_Mo_tug 31 = .ok (.aload_n 0, 1) := by decide +kernel
theorem d_Mo_tug_32 : decode b_Mo_tug 32 = .ok (.iconst 0, 1) := by decide +kernel
theorem d_Mo_tug_33 : decode b_Mo_tug 33 = .ok (.putfield 61, 3) := by decide +kernel
theorem d_Mo_tug_36 : decode b_Mo_tug 36 = .ok (.aload_n 0, 1) := by decide +kernel
theorem d_Mo_tug_37 : decode b_Mo_tug 37 = .ok (.getfield 28, 3) := by decide +kernel
theorem d_Mo_tug_40 : decode b_Mo_tug 40 = .ok (.aload_n 0, 1) := by decide +kernel
theorem d_Mo_tug_41 : decode b_Mo_tug 41 = .ok (.getfield 91, 3) := by decide +kernel
theorem d_Mo_tug_44 : decode b_Mo_tug 44 = .ok (.iload_n 1, 1) := by decide +kernel
theorem d_Mo_tug_45 : decode b_Mo_tug 45 = .ok (.iastore, 1) := by decide +kernel
theorem d_Mo_tug_46 : decode b_Mo_tug 46 = .ok (.aload_n 0, 1) := by decide +kernel
theorem d_Mo_tug_47 : decode b_Mo_tug 47 = .ok (.dup, 1) := by decide +kernel
theorem d_Mo_tug_48 : decode b_Mo_tug 48 = .ok (.getfield 91, 3) := by decide +kernel
theorem d_Mo_tug_51 : decode b_Mo_tug 51 = .ok (.iconst 1, 1) := by decide +kernel
theorem d_Mo_tug_52 : decode b_Mo_tug 52 = .ok (.iadd, 1) := by decide +kernel
theorem d_Mo_tug_53 : decode b_Mo_tug 53 = .ok (.putfield 91, 3) := by decide +kernel
theorem d_Mo_tug_56 : decode b_Mo_tug 56 = .ok (.aload_n 0, 1) := by decide +kernel
theorem d_Mo_tug_57 : decode b_Mo_tug 57 = .ok (.iconst 0, 1) := by decide +kernel
theorem d_Mo_tug_58 : decode b_Mo_tug 58 = .ok (.putfield 87, 3) := by decide +kernel
theorem d_Mo_tug_61 : decode b_Mo_tug 61 = .ok (.aload_n 0, 1) := by decide +kernel
theorem d_Mo_tug_62 : decode b_Mo_tug 62 = .ok (.getfield 91, 3) := by decide +kernel
theorem d_Mo_tug_65 : decode b_Mo_tug 65 = .ok (.iconst 1, 1) := by decide +kernel
theorem d_Mo_tug_66 : decode b_Mo_tug 66 = .ok (.isub, 1) := by decide +kernel
theorem d_Mo_tug_67 : decode b_Mo_tug 67 = .ok (.ireturn, 1) := by decide +kernel
def s_Mo_tug_0 (P_Mo_in : MI → ML → Int32 → Int32 → Int32 → Prop) (Q_Mo_in : MI → ML → Int32 → Int32 → Int32 → Int32 → MI → ML → Prop) (P_Mo_refuse : MI → ML → Int32 → Prop) (Q_Mo_refuse : MI → ML → Int32 → Int32 → MI → ML → Prop) (σ : MI) (τ : ML) (a1 : Int32) (R : Int32 → MI → ML → Prop) : Prop :=
  P_Mo_in σ τ a1 1 100 ∧ ∀ (r4 : Int32) (s4 : MI) (t4 : ML), Q_Mo_in σ τ a1 1 100 r4 s4 t4 → ((¬ r4 = 0 →
  ((¬ (s4 29 8) = 6 →
    (∀ s33 : MI, s33 = st2 s4 29 0 0 → (vp_in (s33 29 8) 6 ∧ (∀ s45 : MI, s45 = st2 s33 36 (Int32.toNatClampNeg (s33 29 8)) a1 → (∀ s53 : MI, s53 = st2 s45 29 8 ((s45 29 8) + 1) → (∀ s58 : MI, s58 = st2 s53 29 18 0 → (R ((s58 29 8) - 1) s58 t4))))))) ∧
    ((s4 29 8) = 6 →
    (P_Mo_refuse s4 t4 2 ∧ ∀ (r27 : Int32) (s27 : MI) (t27 : ML), Q_Mo_refuse s4 t4 2 r27 s27 t27 → (R r27 s27 t27))))) ∧
  (r4 = 0 →
  (P_Mo_refuse s4 t4 1 ∧ ∀ (r12 : Int32) (s12 : MI) (t12 : ML), Q_Mo_refuse s4 t4 1 r12 s12 t12 → (R r12 s12 t12))))
set_option maxHeartbeats 4000000 in
set_option maxRecDepth 100000 in
theorem k_Mo_tug (l : Launch) (D : va_G) (ad : Nat → Nat) (ci cl : ClassId)
    (pre : MI → ML → Int32 → Prop) (post : MI → ML → Int32 → Int32 → MI → ML → Prop) (P_Mo_in : MI → ML → Int32 → Int32 → Int32 → Prop) (Q_Mo_in : MI → ML → Int32 → Int32 → Int32 → Int32 → MI → ML → Prop) (P_Mo_refuse : MI → ML → Int32 → Prop) (Q_Mo_refuse : MI → ML → Int32 → Int32 → MI → ML → Prop)
    (h_Mo_in : ∀ (sz : Nat) (σ : MI) (τ : ML) (b0 : Int32) (b1 : Int32) (b2 : Int32), P_Mo_in σ τ b0 b1 b2 → gMi l D (xw ad ci cl) (xt ci cl) (xa ad) y_Mo_in w_Mo_in rm_Mo_in [.int b0, .int b1, .int b2] sz σ τ (Q_Mo_in σ τ b0 b1 b2))
    (h_Mo_refuse : ∀ (sz : Nat) (σ : MI) (τ : ML) (b0 : Int32), P_Mo_refuse σ τ b0 → gMi l D (xw ad ci cl) (xt ci cl) (xa ad) y_Mo_refuse w_Mo_refuse rm_Mo_refuse [.ref (ad 29), .int b0] sz σ τ (Q_Mo_refuse σ τ b0))
    (v0 : ∀ (σ0 : MI) (τ0 : ML) (a1 : Int32), pre σ0 τ0 a1 → s_Mo_tug_0 P_Mo_in Q_Mo_in P_Mo_refuse Q_Mo_refuse σ0 τ0 a1 (post σ0 τ0 a1)) :
    ∀ (sz : Nat) (σ0 : MI) (τ0 : ML) (a1 : Int32), pre σ0 τ0 a1 → gMi l D (xw ad ci cl) (xt ci cl) (xa ad) y_Mo_tug w_Mo_tug rm_Mo_tug [.ref (ad 29), .int a1] sz σ0 τ0 (post σ0 τ0 a1) := by
  intro sz σ0 τ0 a1 hpre
  refine gk_ofWi (cc := b_Mo_tug) (maxL := 2) (ret := (some .int)) (by decide) rfl xa_ok (Nat.le_of_ble_eq_true rfl) ?_
  intro p e s m below meth c ls hx hb hr hlocks hml hown hts hK hP hD hS hl
  have hl : lv_has ls 2 [(0, .ref (ad 29)), (1, .int a1)] := hl
  have hown : s.vm.findClass R_Mo = some m.cls := hown
  have hv := v0 σ0 τ0 a1 hpre
  unfold s_Mo_tug_0 at hv
  refine lv_iload_n hx hb d_Mo_tug_0 rfl (lv_at hl 1 rfl) ?_
  refine lv_iconst (v := 1) hx hb d_Mo_tug_1 (by decide) ?_
  refine lv_bipush (v := 100) hx hb d_Mo_tug_2 (by decide) ?_
  obtain ⟨hg, hv⟩ := hv
  refine gk_callSi (As := [.int a1, .int 1, .int 100]) (rest := []) ⟨hx, hb, hml, hown, hts⟩ (h_Mo_in _ σ0 τ0 a1 1 100 hg) (gk_cwS 3 hts t_w253 rfl rfl rfl (hts _ t_w250) (hts _ t_w251) (hts _ t_w252) (by decide +kernel) ⟨Nat.le_of_ble_eq_true rfl, Nat.le_of_ble_eq_true rfl⟩) hK hP hD hS rfl hl.1 rfl (lv_room (Nat.le_of_ble_eq_true rfl)) d_Mo_tug_4 ⟨Nat.zero_le _, Nat.zero_le _⟩ ?_
  intro r4 s4 t4 H locs hw hP hD hS
  replace hv := hv r4 s4 t4 hw
  refine lv_if_ne (tgt := 16) hx hb d_Mo_tug_7 (by decide) (fun hc => ?_) (fun hc => ?_)
  · replace hv := hv.1 hc
    refine lv_aload_n hx hb d_Mo_tug_16 rfl (lv_at hl 0 rfl) ?_
    refine va_get (D := D) (ci := 7) (v := .int (s4 29 8)) (C := R_Mo) (T := F_Mo) (N := 24) hx hb hts iw_Mo hown hK hP 29 rfl rfl 8 (by decide) (hts _ t_w269) (fun _ h9 => h9) rfl d_Mo_tug_17 ?_
    refine lv_bipush (v := 6) hx hb d_Mo_tug_20 (by decide) ?_
    refine lv_icmp_ne (tgt := 31) hx hb d_Mo_tug_22 (by decide) (fun hc => ?_) (fun hc => ?_)
    · replace hv := hv.1 hc
      refine lv_aload_n hx hb d_Mo_tug_31 rfl (lv_at hl 0 rfl) ?_
      refine lv_iconst (v := 0) hx hb d_Mo_tug_32 (by decide) ?_
      refine va_put (D := D) (ci := 7) (v := .int 0) (ty := .int) (fs := [.int (s4 29 0), .int (s4 29 1), .ref (ad 30), .ref (ad 31), .ref (ad 32), .ref (ad 33), .ref (ad 34), .ref (ad 35), .int (s4 29 8), .ref (ad 36), .int (s4 29 10), .ref (ad 37), .ref (ad 38), .ref (ad 39), .ref (ad 40), .ref (ad 41), .ref (ad 42), .int (s4 29 17), .int (s4 29 18), .ref (ad 43), .ref (ad 44), .int (s4 29 21), .ref (ad 45), .ref (ad 46)]) (C := R_Mo) (T := F_Mo) (N := 24) hx hb hts iw_Mo ty_Mo ty_Mo_ok nn_Mo hown hK hP hD hS 29 rfl rfl 0 (by decide) (hts _ t_w247) (fun _ h9 => h9) rfl (by decide +kernel) rfl rfl (Nat.le_of_ble_eq_true rfl) d_Mo_tug_33 (fun H locs hP hD hS => ?_)
      rw [xf_29_0] at hP hD
      obtain ⟨s33, es33⟩ : ∃ z : MI, z = st2 s4 29 0 0 := ⟨_, rfl⟩
      rw [← es33] at hP hD
      replace hv := hv s33 es33
      refine lv_aload_n hx hb d_Mo_tug_36 rfl (lv_at hl 0 rfl) ?_
      refine va_get (D := D) (ci := 7) (v := .ref (ad 36)) (C := R_Mo) (T := F_Mo) (N := 24) hx hb hts iw_Mo hown hK hP 29 rfl rfl 9 (by decide) (hts _ t_w270) (fun _ h9 => h9) rfl d_Mo_tug_37 ?_
      refine lv_aload_n hx hb d_Mo_tug_40 rfl (lv_at hl 0 rfl) ?_
      refine va_get (D := D) (ci := 7) (v := .int (s33 29 8)) (C := R_Mo) (T := F_Mo) (N := 24) hx hb hts iw_Mo hown hK hP 29 rfl rfl 8 (by decide) (hts _ t_w269) (fun _ h9 => h9) rfl d_Mo_tug_41 ?_
      refine lv_iload_n hx hb d_Mo_tug_44 rfl (lv_at hl 1 rfl) ?_
      obtain ⟨hi, hv⟩ := hv
      refine va_iast hx hb hK hP hD hS 36 0 rfl rfl hi d_Mo_tug_45 (fun H locs hP hD hS => ?_)
      rw [xa_36] at hP hD
      obtain ⟨s45, es45⟩ : ∃ z : MI, z = st2 s33 36 (Int32.toNatClampNeg (s33 29 8)) a1 := ⟨_, rfl⟩
      rw [← es45] at hP hD
      replace hv := hv s45 es45
      refine lv_aload_n hx hb d_Mo_tug_46 rfl (lv_at hl 0 rfl) ?_
      refine lv_dup hx hb d_Mo_tug_47 rfl ?_
      refine va_get (D := D) (ci := 7) (v := .int (s45 29 8)) (C := R_Mo) (T := F_Mo) (N := 24) hx hb hts iw_Mo hown hK hP 29 rfl rfl 8 (by decide) (hts _ t_w269) (fun _ h9 => h9) rfl d_Mo_tug_48 ?_
      refine lv_iconst (v := 1) hx hb d_Mo_tug_51 (by decide) ?_
      refine lv_iadd hx hb d_Mo_tug_52 ?_
      refine va_put (D := D) (ci := 7) (v := .int ((s45 29 8) + 1)) (ty := .int) (fs := [.int (s45 29 0), .int (s45 29 1), .ref (ad 30), .ref (ad 31), .ref (ad 32), .ref (ad 33), .ref (ad 34), .ref (ad 35), .int (s45 29 8), .ref (ad 36), .int (s45 29 10), .ref (ad 37), .ref (ad 38), .ref (ad 39), .ref (ad 40), .ref (ad 41), .ref (ad 42), .int (s45 29 17), .int (s45 29 18), .ref (ad 43), .ref (ad 44), .int (s45 29 21), .ref (ad 45), .ref (ad 46)]) (C := R_Mo) (T := F_Mo) (N := 24) hx hb hts iw_Mo ty_Mo ty_Mo_ok nn_Mo hown hK hP hD hS 29 rfl rfl 8 (by decide) (hts _ t_w269) (fun _ h9 => h9) rfl (by decide +kernel) rfl rfl (Nat.le_of_ble_eq_true rfl) d_Mo_tug_53 (fun H locs hP hD hS => ?_)
      rw [xf_29_8] at hP hD
      obtain ⟨s53, es53⟩ : ∃ z : MI, z = st2 s45 29 8 ((s45 29 8) + 1) := ⟨_, rfl⟩
      rw [← es53] at hP hD
      replace hv := hv s53 es53
      refine lv_aload_n hx hb d_Mo_tug_56 rfl (lv_at hl 0 rfl) ?_
      refine lv_iconst (v := 0) hx hb d_Mo_tug_57 (by decide) ?_
      refine va_put (D := D) (ci := 7) (v := .int 0) (ty := .boolean) (fs := [.int (s53 29 0), .int (s53 29 1), .ref (ad 30), .ref (ad 31), .ref (ad 32), .ref (ad 33), .ref (ad 34), .ref (ad 35), .int (s53 29 8), .ref (ad 36), .int (s53 29 10), .ref (ad 37), .ref (ad 38), .ref (ad 39), .ref (ad 40), .ref (ad 41), .ref (ad 42), .int (s53 29 17), .int (s53 29 18), .ref (ad 43), .ref (ad 44), .int (s53 29 21), .ref (ad 45), .ref (ad 46)]) (C := R_Mo) (T := F_Mo) (N := 24) hx hb hts iw_Mo ty_Mo ty_Mo_ok nn_Mo hown hK hP hD hS 29 rfl rfl 18 (by decide) (hts _ t_w268) (fun _ h9 => h9) rfl (by decide +kernel) rfl rfl (Nat.le_of_ble_eq_true rfl) d_Mo_tug_58 (fun H locs hP hD hS => ?_)
      rw [xf_29_18] at hP hD
      obtain ⟨s58, es58⟩ : ∃ z : MI, z = st2 s53 29 18 0 := ⟨_, rfl⟩
      rw [← es58] at hP hD
      replace hv := hv s58 es58
      refine lv_aload_n hx hb d_Mo_tug_61 rfl (lv_at hl 0 rfl) ?_
      refine va_get (D := D) (ci := 7) (v := .int (s58 29 8)) (C := R_Mo) (T := F_Mo) (N := 24) hx hb hts iw_Mo hown hK hP 29 rfl rfl 8 (by decide) (hts _ t_w269) (fun _ h9 => h9) rfl d_Mo_tug_62 ?_
      refine lv_iconst (v := 1) hx hb d_Mo_tug_65 (by decide) ?_
      refine lv_isub hx hb d_Mo_tug_66 ?_
      exact gk_iret hx hb hr hlocks hK hP hD hS hv d_Mo_tug_67
    · replace hv := hv.2 hc
      refine lv_aload_n hx hb d_Mo_tug_25 rfl (lv_at hl 0 rfl) ?_
      refine lv_iconst (v := 2) hx hb d_Mo_tug_26 (by decide) ?_
      obtain ⟨hg, hv⟩ := hv
      refine gk_callVi (As := [.int 2]) (rest := []) (b := ad 29) ⟨hx, hb, hml, hown, hts⟩ (h_Mo_refuse _ s4 t4 2 hg) (gk_cwV 1 hts t_w257 rfl rfl rfl (hts _ t_w254) (hts _ t_w255) (hts _ t_w256) (hts _ t_w252) (by decide +kernel) ⟨Nat.le_of_ble_eq_true rfl, Nat.le_of_ble_eq_true rfl⟩) hK hP hD hS (va_recv hK hP (ci := 7) (q0 := 29) rfl rfl) rfl hl.1 rfl (lv_room (Nat.le_of_ble_eq_true rfl)) d_Mo_tug_27 ⟨Nat.zero_le _, Nat.zero_le _⟩ ?_
      intro r27 s27 t27 H locs hw hP hD hS
      replace hv := hv r27 s27 t27 hw
      exact gk_iret hx hb hr hlocks hK hP hD hS hv d_Mo_tug_30
  · replace hv := hv.2 hc
    refine lv_aload_n hx hb d_Mo_tug_10 rfl (lv_at hl 0 rfl) ?_
    refine lv_iconst (v := 1) hx hb d_Mo_tug_11 (by decide) ?_
    obtain ⟨hg, hv⟩ := hv
    refine gk_callVi (As := [.int 1]) (rest := []) (b := ad 29) ⟨hx, hb, hml, hown, hts⟩ (h_Mo_refuse _ s4 t4 1 hg) (gk_cwV 1 hts t_w257 rfl rfl rfl (hts _ t_w254) (hts _ t_w255) (hts _ t_w256) (hts _ t_w252) (by decide +kernel) ⟨Nat.le_of_ble_eq_true rfl, Nat.le_of_ble_eq_true rfl⟩) hK hP hD hS (va_recv hK hP (ci := 7) (q0 := 29) rfl rfl) rfl hl.1 rfl (lv_room (Nat.le_of_ble_eq_true rfl)) d_Mo_tug_12 ⟨Nat.zero_le _, Nat.zero_le _⟩ ?_
    intro r12 s12 t12 H locs hw hP hD hS
    replace hv := hv r12 s12 t12 hw
    exact gk_iret hx hb hr hlocks hK hP hD hS hv d_Mo_tug_15
theorem d_Mo_job_0 : decode b_Mo_job 0 = .ok (.iload_n 1, 1) := by decide +kernel
theorem d_Mo_job_1 : decode b_Mo_job 1 = .ok (.iconst 1, 1) := by decide +kernel
theorem d_Mo_job_2 : decode b_Mo_job 2 = .ok (.iconst 5, 1) := by decide +kernel
theorem d_Mo_job_3 : decode b_Mo_job 3 = .ok (.invokestatic 71, 3) := by decide +kernel
theorem d_Mo_job_6 : decode b_Mo_job 6 = .ok (.ifCond .eq 41, 3) := by decide +kernel
theorem d_Mo_job_9 : decode b_Mo_job 9 = .ok (.iload_n 2, 1) := by decide +kernel
theorem d_Mo_job_10 : decode b_Mo_job 10 = .ok (.iconst 0, 1) := by decide +kernel
theorem d_Mo_job_11 : decode b_Mo_job 11 = .ok (.sipush 300, 3) := by decide +kernel
theorem d_Mo_job_14 : decode b_Mo_job 14 = .ok (.invokestatic 71, 3) := by decide +kernel
theorem d_Mo_job_17 : decode b_Mo_job 17 = .ok (.ifCond .eq 30, 3) := by decide +kernel
theorem d_Mo_job_20 : decode b_Mo_job 20 = .ok (.iload_n 3, 1) := by decide +kernel
theorem d_Mo_job_21 : decode b_Mo_job 21 = .ok (.iload 4, 2) := by decide +kernel
theorem d_Mo_job_23 : decode b_Mo_job 23 = .ok (.invokestatic 75, 3) := by decide +kernel
theorem d_Mo_job_26 : decode b_Mo_job 26 = .ok (.ifCond .eq 21, 3) := by decide +kernel
theorem d_Mo_job_29 : decode b_Mo_job 29 = .ok (.iload 4, 2) := by decide +kernel
theorem d_Mo_job_31 : decode b_Mo_job 31 = .ok (.iload_n 3, 1) := by decide +kernel
theorem d_Mo_job_32 : decode b_Mo_job 32 = .ok (.isub, 1) := by decide +kernel
theorem d_Mo_job_33 : decode b_Mo_job 33 = .ok (.sipush 600, 3) := by decide +kernel
theorem d_Mo_job_36 : decode b_Mo_job 36 = .ok (.if_icmp .gt 11, 3) := by decide +kernel
theorem d_Mo_job_39 : decode b_Mo_job 39 = .ok (.iload 5, 2) := by decide +kernel
theorem d_Mo_job_41 : decode b_Mo_job 41 = .ok (.invokestatic 79, 3) := by decide +kernel
theorem d_Mo_job_44 : decode b_Mo_job 44 = .ok (.ifCond .ne 9, 3) := by decide +kernel
theorem d_Mo_job_47 : decode b_Mo_job 47 = .ok (.aload_n 0, 1) := by decide +kernel
theorem d_Mo_job_48 : decode b_Mo_job 48 = .ok (.iconst 1, 1) := by decide +kernel
theorem d_Mo_job_49 : decode b_Mo_job 49 = .ok (.invokevirtual 83, 3) := by decide +kernel
theorem d_Mo_job_52 : decode b_Mo_job 52 = .ok (.ireturn, 1) := by decide +kernel
theorem d_Mo_job_53 : decode b_Mo_job 53 = .ok (.aload_n 0, 1) := by decide +kernel
theorem d_Mo_job_54 : decode b_Mo_job 54 = .ok (.getfield 68, 3) := by decide +kernel
theorem d_Mo_job_57 : decode b_Mo_job 57 = .ok (.bipush 7, 2) := by decide +kernel
theorem d_Mo_job_59 : decode b_Mo_job 59 = .ok (.if_icmp .ne 9, 3) := by decide +kernel
theorem d_Mo_job_62 : decode b_Mo_job 62 = .ok (.aload_n 0, 1) := by decide +kernel
theorem d_Mo_job_63 : decode b_Mo_job 63 = .ok (.iconst 2, 1) := by decide +kernel
theorem d_Mo_job_64 : decode b_Mo_job 64 = .ok (.invokevirtual 83, 3) := by decide +kernel
theorem d_Mo_job_67 : decode b_Mo_job 67 = .ok (.ireturn, 1) := by decide +kernel
theorem d_Mo_job_68 : decode b_Mo_job 68 = .ok (.aload_n 0, 1) := by decide +kernel
theorem d_Mo_job_69 : decode b_Mo_job 69 = .ok (.iconst 0, 1) := by decide +kernel
theorem d_Mo_job_70 : decode b_Mo_job 70 = .ok (.putfield 61, 3) := by decide +kernel
theorem d_Mo_job_73 : decode b_Mo_job 73 = .ok (.aload_n 0, 1) := by decide +kernel
theorem d_Mo_job_74 : decode b_Mo_job 74 = .ok (.getfield 31, 3) := by decide +kernel
theorem d_Mo_job_77 : decode b_Mo_job 77 = .ok (.aload_n 0, 1) := by decide +kernel
theorem d_Mo_job_78 : decode b_Mo_job 78 = .ok (.getfield 68, 3) := by decide +kernel
theorem d_Mo_job_81 : decode b_Mo_job 81 = .ok (.iload_n 1, 1) := by decide +kernel
theorem d_Mo_job_82 : decode b_Mo_job 82 = .ok (.iastore, 1) := by decide +kernel
theorem d_Mo_job_83 : decode b_Mo_job 83 = .ok (.aload_n 0, 1) := by decide +kernel
theorem d_Mo_job_84 : decode b_Mo_job 84 = .ok (.getfield 34, 3) := by decide +kernel
theorem d_Mo_job_87 : decode b_Mo_job 87 = .ok (.aload_n 0, 1) := by decide +kernel
theorem d_Mo_job_88 : decode b_Mo_job 88 = .ok (.getfield 68, 3) := by decide +kernel
theorem d_Mo_job_91 : decode b_Mo_job 91 = .ok (.iload_n 2, 1) := by decide +kernel
theorem d_Mo_job_92 : decode b_Mo_job 92 = .ok (.iastore, 1) := by decide +kernel
theorem d_Mo_job_93 : decode b_Mo_job 93 = .ok (.aload_n 0, 1) := by decide +kernel
theorem d_Mo_job_94 : decode b_Mo_job 94 = .ok (.getfield 37, 3) := by decide +kernel
theorem d_Mo_job_97 : decode b_Mo_job 97 = .ok (.aload_n 0, 1) := by decide +kernel
theorem d_Mo_job_98 : decode b_Mo_job 98 = .ok (.getfield 68, 3) := by decide +kernel
theorem d_Mo_job_101 : decode b_Mo_job 101 = .ok (.iload_n 3, 1) := by decide +kernel
theorem d_Mo_job_102 : decode b_Mo_job 102 = .ok (.iastore, 1) := by decide +kernel
theorem d_Mo_job_103 : decode b_Mo_job 103 = .ok (.aload_n 0, 1) := by decide +kernel
theorem d_Mo_job_104 : decode b_Mo_job 104 = .ok (.getfield 40, 3) := by decide +kernel
theorem d_Mo_job_107 : decode b_Mo_job 107 = .ok (.aload_n 0, 1) := by decide +kernel
theorem d_Mo_job_108 : decode b_Mo_job 108 = .ok (.getfield 68, 3) := by decide +kernel
theorem d_Mo_job_111 : decode b_Mo_job 111 = .ok (.iload 4, 2) := by decide +kernel
theorem d_Mo_job_113 : decode b_Mo_job 113 = .ok (.iastore, 1) := by decide +kernel
theorem d_Mo_job_114 : decode b_Mo_job 114 = .ok (.aload_n 0, 1) := by decide +kernel
theorem d_Mo_job_115 : decode b_Mo_job 115 = .ok (.getfield 43, 3) := by decide +kernel
theorem d_Mo_job_118 : decode b_Mo_job 118 = .ok (.aload_n 0, 1) := by decide +kernel
theorem d_Mo_job_119 : decode b_Mo_job 119 = .ok (.getfield 68, 3) := by decide +kernel
theorem d_Mo_job_122 : decode b_Mo_job 122 = .ok (.iload 5, 2) := by decide +kernel
theorem d_Mo_job_124 : decode b_Mo_job 124 = .ok (.iastore, 1) := by decide +kernel
theorem d_Mo_job_125 : decode b_Mo_job 125 = .ok (.aload_n 0, 1) := by decide +kernel
theorem d_Mo_job_126 : decode b_Mo_job 126 = .ok (.dup, 1) := by decide +kernel
theorem d_Mo_job_127 : decode b_Mo_job 127 = .ok (.getfield 68, 3) := by decide +kernel
theorem d_Mo_job_130 : decode b_Mo_job 130 = .ok (.iconst 1, 1) := by decide +kernel
theorem d_Mo_job_131 : decode b_Mo_job 131 = .ok (.iadd, 1) := by decide +kernel
theorem d_Mo_job_132 : decode b_Mo_job 132 = .ok (.putfield 68, 3) := by decide +kernel
theorem d_Mo_job_135 : decode b_Mo_job 135 = .ok (.aload_n 0, 1) := by decide +kernel
theorem d_Mo_job_136 : decode b_Mo_job 136 = .ok (.iconst 0, 1) := by decide +kernel
theorem d_Mo_job_137 : decode b_Mo_job 137 = .ok (.putfield 87, 3) := by decide +kernel
theorem d_Mo_job_140 : decode b_Mo_job 140 = .ok (.aload_n 0, 1) := by decide +kernel
theorem d_Mo_job_141 : decode b_Mo_job 141 = .ok (.getfield 68, 3) := by decide +kernel
theorem d_Mo_job_144 : decode b_Mo_job 144 = .ok (.iconst 1, 1) := by decide +kernel
theorem d_Mo_job_145 : decode b_Mo_job 145 = .ok (.isub, 1) := by decide +kernel
theorem d_Mo_job_146 : decode b_Mo_job 146 = .ok (.ireturn, 1) := by decide +kernel
def s_Mo_job_0 (P_Mo_in : MI → ML → Int32 → Int32 → Int32 → Prop) (Q_Mo_in : MI → ML → Int32 → Int32 → Int32 → Int32 → MI → ML → Prop) (P_Mo_refuse : MI → ML → Int32 → Prop) (Q_Mo_refuse : MI → ML → Int32 → Int32 → MI → ML → Prop) (P_Mo_isSpan : MI → ML → Int32 → Int32 → Prop) (Q_Mo_isSpan : MI → ML → Int32 → Int32 → Int32 → MI → ML → Prop) (P_Mo_isPlace : MI → ML → Int32 → Prop) (Q_Mo_isPlace : MI → ML → Int32 → Int32 → MI → ML → Prop) (σ : MI) (τ : ML) (a1 : Int32) (a2 : Int32) (a3 : Int32) (a4 : Int32) (a5 : Int32) (R : Int32 → MI → ML → Prop) : Prop :=
  P_Mo_in σ τ a1 1 5 ∧ ∀ (r3 : Int32) (s3 : MI) (t3 : ML), Q_Mo_in σ τ a1 1 5 r3 s3 t3 → ((r3 = 0 →
  (P_Mo_refuse s3 t3 1 ∧ ∀ (r49 : Int32) (s49 : MI) (t49 : ML), Q_Mo_refuse s3 t3 1 r49 s49 t49 → (R r49 s49 t49))) ∧
  (¬ r3 = 0 →
  (P_Mo_in s3 t3 a2 0 300 ∧ ∀ (r14 : Int32) (s14 : MI) (t14 : ML), Q_Mo_in s3 t3 a2 0 300 r14 s14 t14 → ((r14 = 0 →
    (P_Mo_refuse s14 t14 1 ∧ ∀ (r49 : Int32) (s49 : MI) (t49 : ML), Q_Mo_refuse s14 t14 1 r49 s49 t49 → (R r49 s49 t49))) ∧
    (¬ r14 = 0 →
    (P_Mo_isSpan s14 t14 a3 a4 ∧ ∀ (r23 : Int32) (s23 : MI) (t23 : ML), Q_Mo_isSpan s14 t14 a3 a4 r23 s23 t23 → ((r23 = 0 →
      (P_Mo_refuse s23 t23 1 ∧ ∀ (r49 : Int32) (s49 : MI) (t49 : ML), Q_Mo_refuse s23 t23 1 r49 s49 t49 → (R r49 s49 t49))) ∧
      (¬ r23 = 0 →
      ((600 < (a4 - a3) →
        (P_Mo_refuse s23 t23 1 ∧ ∀ (r49 : Int32) (s49 : MI) (t49 : ML), Q_Mo_refuse s23 t23 1 r49 s49 t49 → (R r49 s49 t49))) ∧
        (¬ 600 < (a4 - a3) →
        (P_Mo_isPlace s23 t23 a5 ∧ ∀ (r41 : Int32) (s41 : MI) (t41 : ML), Q_Mo_isPlace s23 t23 a5 r41 s41 t41 → ((¬ r41 = 0 →
          ((¬ (s41 29 10) = 7 →
            (∀ s70 : MI, s70 = st2 s41 29 0 0 → (vp_in (s70 29 10) 7 ∧ (∀ s82 : MI, s82 = st2 s70 37 (Int32.toNatClampNeg (s70 29 10)) a1 → (vp_in (s82 29 10) 7 ∧ (∀ s92 : MI, s92 = st2 s82 38 (Int32.toNatClampNeg (s82 29 10)) a2 → (vp_in (s92 29 10) 7 ∧ (∀ s102 : MI, s102 = st2 s92 39 (Int32.toNatClampNeg (s92 29 10)) a3 → (vp_in (s102 29 10) 7 ∧ (∀ s113 : MI, s113 = st2 s102 40 (Int32.toNatClampNeg (s102 29 10)) a4 → (vp_in (s113 29 10) 7 ∧ (∀ s124 : MI, s124 = st2 s113 41 (Int32.toNatClampNeg (s113 29 10)) a5 → (∀ s132 : MI, s132 = st2 s124 29 10 ((s124 29 10) + 1) → (∀ s137 : MI, s137 = st2 s132 29 18 0 → (R ((s137 29 10) - 1) s137 t41))))))))))))))) ∧
            ((s41 29 10) = 7 →
            (P_Mo_refuse s41 t41 2 ∧ ∀ (r64 : Int32) (s64 : MI) (t64 : ML), Q_Mo_refuse s41 t41 2 r64 s64 t64 → (R r64 s64 t64))))) ∧
          (r41 = 0 →
          (P_Mo_refuse s41 t41 1 ∧ ∀ (r49 : Int32) (s49 : MI) (t49 : ML), Q_Mo_refuse s41 t41 1 r49 s49 t49 → (R r49 s49 t49)))))))))))))))
set_option maxHeartbeats 4000000 in
set_option maxRecDepth 100000 in
theorem k_Mo_job (l : Launch) (D : va_G) (ad : Nat → Nat) (ci cl : ClassId)
    (pre : MI → ML → Int32 → Int32 → Int32 → Int32 → Int32 → Prop) (post : MI → ML → Int32 → Int32 → Int32 → Int32 → Int32 → Int32 → MI → ML → Prop) (P_Mo_in : MI → ML → Int32 → Int32 → Int32 → Prop) (Q_Mo_in : MI → ML → Int32 → Int32 → Int32 → Int32 → MI → ML → Prop) (P_Mo_refuse : MI → ML → Int32 → Prop) (Q_Mo_refuse : MI → ML → Int32 → Int32 → MI → ML → Prop) (P_Mo_isSpan : MI → ML → Int32 → Int32 → Prop) (Q_Mo_isSpan : MI → ML → Int32 → Int32 → Int32 → MI → ML → Prop) (P_Mo_isPlace : MI → ML → Int32 → Prop) (Q_Mo_isPlace : MI → ML → Int32 → Int32 → MI → ML → Prop)
    (h_Mo_in : ∀ (sz : Nat) (σ : MI) (τ : ML) (b0 : Int32) (b1 : Int32) (b2 : Int32), P_Mo_in σ τ b0 b1 b2 → gMi l D (xw ad ci cl) (xt ci cl) (xa ad) y_Mo_in w_Mo_in rm_Mo_in [.int b0, .int b1, .int b2] sz σ τ (Q_Mo_in σ τ b0 b1 b2))
    (h_Mo_refuse : ∀ (sz : Nat) (σ : MI) (τ : ML) (b0 : Int32), P_Mo_refuse σ τ b0 → gMi l D (xw ad ci cl) (xt ci cl) (xa ad) y_Mo_refuse w_Mo_refuse rm_Mo_refuse [.ref (ad 29), .int b0] sz σ τ (Q_Mo_refuse σ τ b0))
    (h_Mo_isSpan : ∀ (sz : Nat) (σ : MI) (τ : ML) (b0 : Int32) (b1 : Int32), P_Mo_isSpan σ τ b0 b1 → gMi l D (xw ad ci cl) (xt ci cl) (xa ad) y_Mo_isSpan w_Mo_isSpan rm_Mo_isSpan [.int b0, .int b1] sz σ τ (Q_Mo_isSpan σ τ b0 b1))
    (h_Mo_isPlace : ∀ (sz : Nat) (σ : MI) (τ : ML) (b0 : Int32), P_Mo_isPlace σ τ b0 → gMi l D (xw ad ci cl) (xt ci cl) (xa ad) y_Mo_isPlace w_Mo_isPlace rm_Mo_isPlace [.int b0] sz σ τ (Q_Mo_isPlace σ τ b0))
    (v0 : ∀ (σ0 : MI) (τ0 : ML) (a1 : Int32) (a2 : Int32) (a3 : Int32) (a4 : Int32) (a5 : Int32), pre σ0 τ0 a1 a2 a3 a4 a5 → s_Mo_job_0 P_Mo_in Q_Mo_in P_Mo_refuse Q_Mo_refuse P_Mo_isSpan Q_Mo_isSpan P_Mo_isPlace Q_Mo_isPlace σ0 τ0 a1 a2 a3 a4 a5 (post σ0 τ0 a1 a2 a3 a4 a5)) :
    ∀ (sz : Nat) (σ0 : MI) (τ0 : ML) (a1 : Int32) (a2 : Int32) (a3 : Int32) (a4 : Int32) (a5 : Int32), pre σ0 τ0 a1 a2 a3 a4 a5 → gMi l D (xw ad ci cl) (xt ci cl) (xa ad) y_Mo_job w_Mo_job rm_Mo_job [.ref (ad 29), .int a1, .int a2, .int a3, .int a4, .int a5] sz σ0 τ0 (post σ0 τ0 a1 a2 a3 a4 a5) := by
  intro sz σ0 τ0 a1 a2 a3 a4 a5 hpre
  refine gk_ofWi (cc := b_Mo_job) (maxL := 6) (ret := (some .int)) (by decide) rfl xa_ok (Nat.le_of_ble_eq_true rfl) ?_
  intro p e s m below meth c ls hx hb hr hlocks hml hown hts hK hP hD hS hl
  have hl : lv_has ls 6 [(0, .ref (ad 29)), (1, .int a1), (2, .int a2), (3, .int a3), (4, .int a4), (5, .int a5)] := hl
  have hown : s.vm.findClass R_Mo = some m.cls := hown
  have hv := v0 σ0 τ0 a1 a2 a3 a4 a5 hpre
  unfold s_Mo_job_0 at hv
  refine lv_iload_n hx hb d_Mo_job_0 rfl (lv_at hl 1 rfl) ?_
  refine lv_iconst (v := 1) hx hb d_Mo_job_1 (by decide) ?_
  refine lv_iconst (v := 5) hx hb d_Mo_job_2 (by decide) ?_
  obtain ⟨hg, hv⟩ := hv
  refine gk_callSi (As := [.int a1, .int 1, .int 5]) (rest := []) ⟨hx, hb, hml, hown, hts⟩ (h_Mo_in _ σ0 τ0 a1 1 5 hg) (gk_cwS 3 hts t_w253 rfl rfl rfl (hts _ t_w250) (hts _ t_w251) (hts _ t_w252) (by decide +kernel) ⟨Nat.le_of_ble_eq_true rfl, Nat.le_of_ble_eq_true rfl⟩) hK hP hD hS rfl hl.1 rfl (lv_room (Nat.le_of_ble_eq_true rfl)) d_Mo_job_3 ⟨Nat.zero_le _, Nat.zero_le _⟩ ?_
  intro r3 s3 t3 H locs hw hP hD hS
  replace hv := hv r3 s3 t3 hw
  refine lv_if_eq (tgt := 47) hx hb d_Mo_job_6 (by decide) (fun hc => ?_) (fun hc => ?_)
  · replace hv := hv.1 hc
    refine lv_aload_n hx hb d_Mo_job_47 rfl (lv_at hl 0 rfl) ?_
    refine lv_iconst (v := 1) hx hb d_Mo_job_48 (by decide) ?_
    obtain ⟨hg, hv⟩ := hv
    refine gk_callVi (As := [.int 1]) (rest := []) (b := ad 29) ⟨hx, hb, hml, hown, hts⟩ (h_Mo_refuse _ s3 t3 1 hg) (gk_cwV 1 hts t_w257 rfl rfl rfl (hts _ t_w254) (hts _ t_w255) (hts _ t_w256) (hts _ t_w252) (by decide +kernel) ⟨Nat.le_of_ble_eq_true rfl, Nat.le_of_ble_eq_true rfl⟩) hK hP hD hS (va_recv hK hP (ci := 7) (q0 := 29) rfl rfl) rfl hl.1 rfl (lv_room (Nat.le_of_ble_eq_true rfl)) d_Mo_job_49 ⟨Nat.zero_le _, Nat.zero_le _⟩ ?_
    intro r49 s49 t49 H locs hw hP hD hS
    replace hv := hv r49 s49 t49 hw
    exact gk_iret hx hb hr hlocks hK hP hD hS hv d_Mo_job_52
  · replace hv := hv.2 hc
    refine lv_iload_n hx hb d_Mo_job_9 rfl (lv_at hl 2 rfl) ?_
    refine lv_iconst (v := 0) hx hb d_Mo_job_10 (by decide) ?_
    refine lv_sipush (v := 300) hx hb d_Mo_job_11 (by decide) ?_
    obtain ⟨hg, hv⟩ := hv
    refine gk_callSi (As := [.int a2, .int 0, .int 300]) (rest := []) ⟨hx, hb, hml, hown, hts⟩ (h_Mo_in _ s3 t3 a2 0 300 hg) (gk_cwS 3 hts t_w253 rfl rfl rfl (hts _ t_w250) (hts _ t_w251) (hts _ t_w252) (by decide +kernel) ⟨Nat.le_of_ble_eq_true rfl, Nat.le_of_ble_eq_true rfl⟩) hK hP hD hS rfl hl.1 rfl (lv_room (Nat.le_of_ble_eq_true rfl)) d_Mo_job_14 ⟨Nat.zero_le _, Nat.zero_le _⟩ ?_
    intro r14 s14 t14 H locs hw hP hD hS
    replace hv := hv r14 s14 t14 hw
    refine lv_if_eq (tgt := 47) hx hb d_Mo_job_17 (by decide) (fun hc => ?_) (fun hc => ?_)
    · replace hv := hv.1 hc
      refine lv_aload_n hx hb d_Mo_job_47 rfl (lv_at hl 0 rfl) ?_
      refine lv_iconst (v := 1) hx hb d_Mo_job_48 (by decide) ?_
      obtain ⟨hg, hv⟩ := hv
      refine gk_callVi (As := [.int 1]) (rest := []) (b := ad 29) ⟨hx, hb, hml, hown, hts⟩ (h_Mo_refuse _ s14 t14 1 hg) (gk_cwV 1 hts t_w257 rfl rfl rfl (hts _ t_w254) (hts _ t_w255) (hts _ t_w256) (hts _ t_w252) (by decide +kernel) ⟨Nat.le_of_ble_eq_true rfl, Nat.le_of_ble_eq_true rfl⟩) hK hP hD hS (va_recv hK hP (ci := 7) (q0 := 29) rfl rfl) rfl hl.1 rfl (lv_room (Nat.le_of_ble_eq_true rfl)) d_Mo_job_49 ⟨Nat.zero_le _, Nat.zero_le _⟩ ?_
      intro r49 s49 t49 H locs hw hP hD hS
      replace hv := hv r49 s49 t49 hw
      exact gk_iret hx hb hr hlocks hK hP hD hS hv d_Mo_job_52
    · replace hv := hv.2 hc
      refine lv_iload_n hx hb d_Mo_job_20 rfl (lv_at hl 3 rfl) ?_
      refine lv_iload hx hb d_Mo_job_21 (lv_at hl 4 rfl) ?_
      obtain ⟨hg, hv⟩ := hv
      refine gk_callSi (As := [.int a3, .int a4]) (rest := []) ⟨hx, hb, hml, hown, hts⟩ (h_Mo_isSpan _ s14 t14 a3 a4 hg) (gk_cwS 2 hts t_w260 rfl rfl rfl (hts _ t_w258) (hts _ t_w259) (hts _ t_w252) (by decide +kernel) ⟨Nat.le_of_ble_eq_true rfl, Nat.le_of_ble_eq_true rfl⟩) hK hP hD hS rfl hl.1 rfl (lv_room (Nat.le_of_ble_eq_true rfl)) d_Mo_job_23 ⟨Nat.zero_le _, Nat.zero_le _⟩ ?_
      intro r23 s23 t23 H locs hw hP hD hS
      replace hv := hv r23 s23 t23 hw
      refine lv_if_eq (tgt := 47) hx hb d_Mo_job_26 (by decide) (fun hc => ?_) (fun hc => ?_)
      · replace hv := hv.1 hc
        refine lv_aload_n hx hb d_Mo_job_47 rfl (lv_at hl 0 rfl) ?_
        refine lv_iconst (v := 1) hx hb d_Mo_job_48 (by decide) ?_
        obtain ⟨hg, hv⟩ := hv
        refine gk_callVi (As := [.int 1]) (rest := []) (b := ad 29) ⟨hx, hb, hml, hown, hts⟩ (h_Mo_refuse _ s23 t23 1 hg) (gk_cwV 1 hts t_w257 rfl rfl rfl (hts _ t_w254) (hts _ t_w255) (hts _ t_w256) (hts _ t_w252) (by decide +kernel) ⟨Nat.le_of_ble_eq_true rfl, Nat.le_of_ble_eq_true rfl⟩) hK hP hD hS (va_recv hK hP (ci := 7) (q0 := 29) rfl rfl) rfl hl.1 rfl (lv_room (Nat.le_of_ble_eq_true rfl)) d_Mo_job_49 ⟨Nat.zero_le _, Nat.zero_le _⟩ ?_
        intro r49 s49 t49 H locs hw hP hD hS
        replace hv := hv r49 s49 t49 hw
        exact gk_iret hx hb hr hlocks hK hP hD hS hv d_Mo_job_52
      · replace hv := hv.2 hc
        refine lv_iload hx hb d_Mo_job_29 (lv_at hl 4 rfl) ?_
        refine lv_iload_n hx hb d_Mo_job_31 rfl (lv_at hl 3 rfl) ?_
        refine lv_isub hx hb d_Mo_job_32 ?_
        refine lv_sipush (v := 600) hx hb d_Mo_job_33 (by decide) ?_
        refine lv_icmp_gt (tgt := 47) hx hb d_Mo_job_36 (by decide) (fun hc => ?_) (fun hc => ?_)
        · replace hv := hv.1 hc
          refine lv_aload_n hx hb d_Mo_job_47 rfl (lv_at hl 0 rfl) ?_
          refine lv_iconst (v := 1) hx hb d_Mo_job_48 (by decide) ?_
          obtain ⟨hg, hv⟩ := hv
          refine gk_callVi (As := [.int 1]) (rest := []) (b := ad 29) ⟨hx, hb, hml, hown, hts⟩ (h_Mo_refuse _ s23 t23 1 hg) (gk_cwV 1 hts t_w257 rfl rfl rfl (hts _ t_w254) (hts _ t_w255) (hts _ t_w256) (hts _ t_w252) (by decide +kernel) ⟨Nat.le_of_ble_eq_true rfl, Nat.le_of_ble_eq_true rfl⟩) hK hP hD hS (va_recv hK hP (ci := 7) (q0 := 29) rfl rfl) rfl hl.1 rfl (lv_room (Nat.le_of_ble_eq_true rfl)) d_Mo_job_49 ⟨Nat.zero_le _, Nat.zero_le _⟩ ?_
          intro r49 s49 t49 H locs hw hP hD hS
          replace hv := hv r49 s49 t49 hw
          exact gk_iret hx hb hr hlocks hK hP hD hS hv d_Mo_job_52
        · replace hv := hv.2 hc
          refine lv_iload hx hb d_Mo_job_39 (lv_at hl 5 rfl) ?_
          obtain ⟨hg, hv⟩ := hv
          refine gk_callSi (As := [.int a5]) (rest := []) ⟨hx, hb, hml, hown, hts⟩ (h_Mo_isPlace _ s23 t23 a5 hg) (gk_cwS 1 hts t_w263 rfl rfl rfl (hts _ t_w261) (hts _ t_w262) (hts _ t_w252) (by decide +kernel) ⟨Nat.le_of_ble_eq_true rfl, Nat.le_of_ble_eq_true rfl⟩) hK hP hD hS rfl hl.1 rfl (lv_room (Nat.le_of_ble_eq_true rfl)) d_Mo_job_41 ⟨Nat.zero_le _, Nat.zero_le _⟩ ?_
          intro r41 s41 t41 H locs hw hP hD hS
          replace hv := hv r41 s41 t41 hw
          refine lv_if_ne (tgt := 53) hx hb d_Mo_job_44 (by decide) (fun hc => ?_) (fun hc => ?_)
          · replace hv := hv.1 hc
            refine lv_aload_n hx hb d_Mo_job_53 rfl (lv_at hl 0 rfl) ?_
            refine va_get (D := D) (ci := 7) (v := .int (s41 29 10)) (C := R_Mo) (T := F_Mo) (N := 24) hx hb hts iw_Mo hown hK hP 29 rfl rfl 10 (by decide) (hts _ t_w249) (fun _ h9 => h9) rfl d_Mo_job_54 ?_
            refine lv_bipush (v := 7) hx hb d_Mo_job_57 (by decide) ?_
            refine lv_icmp_ne (tgt := 68) hx hb d_Mo_job_59 (by decide) (fun hc => ?_) (fun hc => ?_)
            · replace hv := hv.1 hc
              refine lv_aload_n hx hb d_Mo_job_68 rfl (lv_at hl 0 rfl) ?_
              refine lv_iconst (v := 0) hx hb d_Mo_job_69 (by decide) ?_
              refine va_put (D := D) (ci := 7) (v := .int 0) (ty := .int) (fs := [.int (s41 29 0), .int (s41 29 1), .ref (ad 30), .ref (ad 31), .ref (ad 32), .ref (ad 33), .ref (ad 34), .ref (ad 35), .int (s41 29 8), .ref (ad 36), .int (s41 29 10), .ref (ad 37), .ref (ad 38), .ref (ad 39), .ref (ad 40), .ref (ad 41), .ref (ad 42), .int (s41 29 17), .int (s41 29 18), .ref (ad 43), .ref (ad 44), .int (s41 29 21), .ref (ad 45), .ref (ad 46)]) (C := R_Mo) (T := F_Mo) (N := 24) hx hb hts iw_Mo ty_Mo ty_Mo_ok nn_Mo hown hK hP hD hS 29 rfl rfl 0 (by decide) (hts _ t_w247) (fun _ h9 => h9) rfl (by decide +kernel) rfl rfl (Nat.le_of_ble_eq_true rfl) d_Mo_job_70 (fun H locs hP hD hS => ?_)
              rw [xf_29_0] at hP hD
              obtain ⟨s70, es70⟩ : ∃ z : MI, z = st2 s41 29 0 0 := ⟨_, rfl⟩
              rw [← es70] at hP hD
              replace hv := hv s70 es70
              refine lv_aload_n hx hb d_Mo_job_73 rfl (lv_at hl 0 rfl) ?_
              refine va_get (D := D) (ci := 7) (v := .ref (ad 37)) (C := R_Mo) (T := F_Mo) (N := 24) hx hb hts iw_Mo hown hK hP 29 rfl rfl 11 (by decide) (hts _ t_w271) (fun _ h9 => h9) rfl d_Mo_job_74 ?_
              refine lv_aload_n hx hb d_Mo_job_77 rfl (lv_at hl 0 rfl) ?_
              refine va_get (D := D) (ci := 7) (v := .int (s70 29 10)) (C := R_Mo) (T := F_Mo) (N := 24) hx hb hts iw_Mo hown hK hP 29 rfl rfl 10 (by decide) (hts _ t_w249) (fun _ h9 => h9) rfl d_Mo_job_78 ?_
              refine lv_iload_n hx hb d_Mo_job_81 rfl (lv_at hl 1 rfl) ?_
              obtain ⟨hi, hv⟩ := hv
              refine va_iast hx hb hK hP hD hS 37 0 rfl rfl hi d_Mo_job_82 (fun H locs hP hD hS => ?_)
              rw [xa_37] at hP hD
              obtain ⟨s82, es82⟩ : ∃ z : MI, z = st2 s70 37 (Int32.toNatClampNeg (s70 29 10)) a1 := ⟨_, rfl⟩
              rw [← es82] at hP hD
              replace hv := hv s82 es82
              refine lv_aload_n hx hb d_Mo_job_83 rfl (lv_at hl 0 rfl) ?_
              refine va_get (D := D) (ci := 7) (v := .ref (ad 38)) (C := R_Mo) (T := F_Mo) (N := 24) hx hb hts iw_Mo hown hK hP 29 rfl rfl 12 (by decide) (hts _ t_w272) (fun _ h9 => h9) rfl d_Mo_job_84 ?_
              refine lv_aload_n hx hb d_Mo_job_87 rfl (lv_at hl 0 rfl) ?_
              refine va_get (D := D) (ci := 7) (v := .int (s82 29 10)) (C := R_Mo) (T := F_Mo) (N := 24) hx hb hts iw_Mo hown hK hP 29 rfl rfl 10 (by decide) (hts _ t_w249) (fun _ h9 => h9) rfl d_Mo_job_88 ?_
              refine lv_iload_n hx hb d_Mo_job_91 rfl (lv_at hl 2 rfl) ?_
              obtain ⟨hi, hv⟩ := hv
              refine va_iast hx hb hK hP hD hS 38 0 rfl rfl hi d_Mo_job_92 (fun H locs hP hD hS => ?_)
              rw [xa_38] at hP hD
              obtain ⟨s92, es92⟩ : ∃ z : MI, z = st2 s82 38 (Int32.toNatClampNeg (s82 29 10)) a2 := ⟨_, rfl⟩
              rw [← es92] at hP hD
              replace hv := hv s92 es92
              refine lv_aload_n hx hb d_Mo_job_93 rfl (lv_at hl 0 rfl) ?_
              refine va_get (D := D) (ci := 7) (v := .ref (ad 39)) (C := R_Mo) (T := F_Mo) (N := 24) hx hb hts iw_Mo hown hK hP 29 rfl rfl 13 (by decide) (hts _ t_w273) (fun _ h9 => h9) rfl d_Mo_job_94 ?_
              refine lv_aload_n hx hb d_Mo_job_97 rfl (lv_at hl 0 rfl) ?_
              refine va_get (D := D) (ci := 7) (v := .int (s92 29 10)) (C := R_Mo) (T := F_Mo) (N := 24) hx hb hts iw_Mo hown hK hP 29 rfl rfl 10 (by decide) (hts _ t_w249) (fun _ h9 => h9) rfl d_Mo_job_98 ?_
              refine lv_iload_n hx hb d_Mo_job_101 rfl (lv_at hl 3 rfl) ?_
              obtain ⟨hi, hv⟩ := hv
              refine va_iast hx hb hK hP hD hS 39 0 rfl rfl hi d_Mo_job_102 (fun H locs hP hD hS => ?_)
              rw [xa_39] at hP hD
              obtain ⟨s102, es102⟩ : ∃ z : MI, z = st2 s92 39 (Int32.toNatClampNeg (s92 29 10)) a3 := ⟨_, rfl⟩
              rw [← es102] at hP hD
              replace hv := hv s102 es102
              refine lv_aload_n hx hb d_Mo_job_103 rfl (lv_at hl 0 rfl) ?_
              refine va_get (D := D) (ci := 7) (v := .ref (ad 40)) (C := R_Mo) (T := F_Mo) (N := 24) hx hb hts iw_Mo hown hK hP 29 rfl rfl 14 (by decide) (hts _ t_w274) (fun _ h9 => h9) rfl d_Mo_job_104 ?_
              refine lv_aload_n hx hb d_Mo_job_107 rfl (lv_at hl 0 rfl) ?_
              refine va_get (D := D) (ci := 7) (v := .int (s102 29 10)) (C := R_Mo) (T := F_Mo) (N := 24) hx hb hts iw_Mo hown hK hP 29 rfl rfl 10 (by decide) (hts _ t_w249) (fun _ h9 => h9) rfl d_Mo_job_108 ?_
              refine lv_iload hx hb d_Mo_job_111 (lv_at hl 4 rfl) ?_
              obtain ⟨hi, hv⟩ := hv
              refine va_iast hx hb hK hP hD hS 40 0 rfl rfl hi d_Mo_job_113 (fun H locs hP hD hS => ?_)
              rw [xa_40] at hP hD
              obtain ⟨s113, es113⟩ : ∃ z : MI, z = st2 s102 40 (Int32.toNatClampNeg (s102 29 10)) a4 := ⟨_, rfl⟩
              rw [← es113] at hP hD
              replace hv := hv s113 es113
              refine lv_aload_n hx hb d_Mo_job_114 rfl (lv_at hl 0 rfl) ?_
              refine va_get (D := D) (ci := 7) (v := .ref (ad 41)) (C := R_Mo) (T := F_Mo) (N := 24) hx hb hts iw_Mo hown hK hP 29 rfl rfl 15 (by decide) (hts _ t_w275) (fun _ h9 => h9) rfl d_Mo_job_115 ?_
              refine lv_aload_n hx hb d_Mo_job_118 rfl (lv_at hl 0 rfl) ?_
              refine va_get (D := D) (ci := 7) (v := .int (s113 29 10)) (C := R_Mo) (T := F_Mo) (N := 24) hx hb hts iw_Mo hown hK hP 29 rfl rfl 10 (by decide) (hts _ t_w249) (fun _ h9 => h9) rfl d_Mo_job_119 ?_
              refine lv_iload hx hb d_Mo_job_122 (lv_at hl 5 rfl) ?_
              obtain ⟨hi, hv⟩ := hv
              refine va_iast hx hb hK hP hD hS 41 0 rfl rfl hi d_Mo_job_124 (fun H locs hP hD hS => ?_)
              rw [xa_41] at hP hD
              obtain ⟨s124, es124⟩ : ∃ z : MI, z = st2 s113 41 (Int32.toNatClampNeg (s113 29 10)) a5 := ⟨_, rfl⟩
              rw [← es124] at hP hD
              replace hv := hv s124 es124
              refine lv_aload_n hx hb d_Mo_job_125 rfl (lv_at hl 0 rfl) ?_
              refine lv_dup hx hb d_Mo_job_126 rfl ?_
              refine va_get (D := D) (ci := 7) (v := .int (s124 29 10)) (C := R_Mo) (T := F_Mo) (N := 24) hx hb hts iw_Mo hown hK hP 29 rfl rfl 10 (by decide) (hts _ t_w249) (fun _ h9 => h9) rfl d_Mo_job_127 ?_
              refine lv_iconst (v := 1) hx hb d_Mo_job_130 (by decide) ?_
              refine lv_iadd hx hb d_Mo_job_131 ?_
              refine va_put (D := D) (ci := 7) (v := .int ((s124 29 10) + 1)) (ty := .int) (fs := [.int (s124 29 0), .int (s124 29 1), .ref (ad 30), .ref (ad 31), .ref (ad 32), .ref (ad 33), .ref (ad 34), .ref (ad 35), .int (s124 29 8), .ref (ad 36), .int (s124 29 10), .ref (ad 37), .ref (ad 38), .ref (ad 39), .ref (ad 40), .ref (ad 41), .ref (ad 42), .int (s124 29 17), .int (s124 29 18), .ref (ad 43), .ref (ad 44), .int (s124 29 21), .ref (ad 45), .ref (ad 46)]) (C := R_Mo) (T := F_Mo) (N := 24) hx hb hts iw_Mo ty_Mo ty_Mo_ok nn_Mo hown hK hP hD hS 29 rfl rfl 10 (by decide) (hts _ t_w249) (fun _ h9 => h9) rfl (by decide +kernel) rfl rfl (Nat.le_of_ble_eq_true rfl) d_Mo_job_132 (fun H locs hP hD hS => ?_)
              rw [xf_29_10] at hP hD
              obtain ⟨s132, es132⟩ : ∃ z : MI, z = st2 s124 29 10 ((s124 29 10) + 1) := ⟨_, rfl⟩
              rw [← es132] at hP hD
              replace hv := hv s132 es132
              refine lv_aload_n hx hb d_Mo_job_135 rfl (lv_at hl 0 rfl) ?_
              refine lv_iconst (v := 0) hx hb d_Mo_job_136 (by decide) ?_
              refine va_put (D := D) (ci := 7) (v := .int 0) (ty := .boolean) (fs := [.int (s132 29 0), .int (s132 29 1), .ref (ad 30), .ref (ad 31), .ref (ad 32), .ref (ad 33), .ref (ad 34), .ref (ad 35), .int (s132 29 8), .ref (ad 36), .int (s132 29 10), .ref (ad 37), .ref (ad 38), .ref (ad 39), .ref (ad 40), .ref (ad 41), .ref (ad 42), .int (s132 29 17), .int (s132 29 18), .ref (ad 43), .ref (ad 44), .int (s132 29 21), .ref (ad 45), .ref (ad 46)]) (C := R_Mo) (T := F_Mo) (N := 24) hx hb hts iw_Mo ty_Mo ty_Mo_ok nn_Mo hown hK hP hD hS 29 rfl rfl 18 (by decide) (hts _ t_w268) (fun _ h9 => h9) rfl (by decide +kernel) rfl rfl (Nat.le_of_ble_eq_true rfl) d_Mo_job_137 (fun H locs hP hD hS => ?_)
              rw [xf_29_18] at hP hD
              obtain ⟨s137, es137⟩ : ∃ z : MI, z = st2 s132 29 18 0 := ⟨_, rfl⟩
              rw [← es137] at hP hD
              replace hv := hv s137 es137
              refine lv_aload_n hx hb d_Mo_job_140 rfl (lv_at hl 0 rfl) ?_
              refine va_get (D := D) (ci := 7) (v := .int (s137 29 10)) (C := R_Mo) (T := F_Mo) (N := 24) hx hb hts iw_Mo hown hK hP 29 rfl rfl 10 (by decide) (hts _ t_w249) (fun _ h9 => h9) rfl d_Mo_job_141 ?_
              refine lv_iconst (v := 1) hx hb d_Mo_job_144 (by decide) ?_
              refine lv_isub hx hb d_Mo_job_145 ?_
              exact gk_iret hx hb hr hlocks hK hP hD hS hv d_Mo_job_146
            · replace hv := hv.2 hc
              refine lv_aload_n hx hb d_Mo_job_62 rfl (lv_at hl 0 rfl) ?_
              refine lv_iconst (v := 2) hx hb d_Mo_job_63 (by decide) ?_
              obtain ⟨hg, hv⟩ := hv
              refine gk_callVi (As := [.int 2]) (rest := []) (b := ad 29) ⟨hx, hb, hml, hown, hts⟩ (h_Mo_refuse _ s41 t41 2 hg) (gk_cwV 1 hts t_w257 rfl rfl rfl (hts _ t_w254) (hts _ t_w255) (hts _ t_w256) (hts _ t_w252) (by decide +kernel) ⟨Nat.le_of_ble_eq_true rfl, Nat.le_of_ble_eq_true rfl⟩) hK hP hD hS (va_recv hK hP (ci := 7) (q0 := 29) rfl rfl) rfl hl.1 rfl (lv_room (Nat.le_of_ble_eq_true rfl)) d_Mo_job_64 ⟨Nat.zero_le _, Nat.zero_le _⟩ ?_
              intro r64 s64 t64 H locs hw hP hD hS
              replace hv := hv r64 s64 t64 hw
              exact gk_iret hx hb hr hlocks hK hP hD hS hv d_Mo_job_67
          · replace hv := hv.2 hc
            refine lv_aload_n hx hb d_Mo_job_47 rfl (lv_at hl 0 rfl) ?_
            refine lv_iconst (v := 1) hx hb d_Mo_job_48 (by decide) ?_
            obtain ⟨hg, hv⟩ := hv
            refine gk_callVi (As := [.int 1]) (rest := []) (b := ad 29) ⟨hx, hb, hml, hown, hts⟩ (h_Mo_refuse _ s41 t41 1 hg) (gk_cwV 1 hts t_w257 rfl rfl rfl (hts _ t_w254) (hts _ t_w255) (hts _ t_w256) (hts _ t_w252) (by decide +kernel) ⟨Nat.le_of_ble_eq_true rfl, Nat.le_of_ble_eq_true rfl⟩) hK hP hD hS (va_recv hK hP (ci := 7) (q0 := 29) rfl rfl) rfl hl.1 rfl (lv_room (Nat.le_of_ble_eq_true rfl)) d_Mo_job_49 ⟨Nat.zero_le _, Nat.zero_le _⟩ ?_
            intro r49 s49 t49 H locs hw hP hD hS
            replace hv := hv r49 s49 t49 hw
            exact gk_iret hx hb hr hlocks hK hP hD hS hv d_Mo_job_52
theorem d_Mo_travels_0 : decode b_Mo_travels 0 = .ok (.aload_n 0, 1) := by decide +kernel
theorem d_Mo_travels_1 : decode b_Mo_travels 1 = .ok (.iconst 0, 1) := by decide +kernel
theorem d_Mo_travels_2 : decode b_Mo_travels 2 = .ok (.putfield 61, 3) := by decide +kernel
theorem d_Mo_travels_5 : decode b_Mo_travels 5 = .ok (.iload_n 1, 1) := by decide +kernel
theorem d_Mo_travels_6 : decode b_Mo_travels 6 = .ok (.invokestatic 79, 3) := by decide +kernel
theorem d_Mo_travels_9 : decode b_Mo_travels 9 = .ok (.ifCond .eq 26, 3) := by decide +kernel
theorem d_Mo_travels_12 : decode b_Mo_travels 12 = .ok (.iload_n 2, 1) := by decide +kernel
theorem d_Mo_travels_13 : decode b_Mo_travels 13 = .ok (.invokestatic 79, 3) := by decide +kernel
theorem d_Mo_travels_16 : decode b_Mo_travels 16 = .ok (.ifCond .eq 19, 3) := by decide +kernel
theorem d_Mo_travels_19 : decode b_Mo_travels 19 = .ok (.iload_n 1, 1) := by decide +kernel
theorem d_Mo_travels_20 : decode b_Mo_travels 20 = .ok (.iload_n 2, 1) := by decide +kernel
theorem d_Mo_travels_21 : decode b_Mo_travels 21 = .ok (.if_icmp .eq 14, 3) := by decide +kernel
theorem d_Mo_travels_24 : decode b_Mo_travels 24 = .ok (.iload_n 3, 1) := by decide +kernel
theorem d_Mo_travels_25 : decode b_Mo_travels 25 = .ok (.iconst 0, 1) := by decide +kernel
theorem d_Mo_travels_26 : decode b_Mo_travels 26 = .ok (.sipush 300, 3) := by decide +kernel
theorem d_Mo_travels_29 : decode b_Mo_travels 29 = .ok (.invokestatic 71, 3) := by decide +kernel
theorem d_Mo_travels_32 : decode b_Mo_travels 32 = .ok (.ifCond .ne 5, 3) := by decide +kernel
theorem d_Mo_travels_35 : decode b_Mo_travels 35 = .ok (.iconst 0, 1) := by decide +kernel
theorem d_Mo_travels_36 : decode b_Mo_travels 36 = .ok (.ireturn, 1) := by decide +kernel
theorem d_Mo_travels_37 : decode b_Mo_travels 37 = .ok (.aload_n 0, 1) := by decide +kernel
theorem d_Mo_travels_38 : decode b_Mo_travels 38 = .ok (.getfield 46, 3) := by decide +kernel
theorem d_Mo_travels_41 : decode b_Mo_travels 41 = .ok (.iconst 5, 1) := by decide +kernel
theorem d_Mo_travels_42 : decode b_Mo_travels 42 = .ok (.iload_n 1, 1) := by decide +kernel
theorem d_Mo_travels_43 : decode b_Mo_travels 43 = .ok (.imul, 1) := by decide +kernel
theorem d_Mo_travels_44 : decode b_Mo_travels 44 = .ok (.iload_n 2, 1) := by decide +kernel
theorem d_Mo_travels_45 : decode b_Mo_travels 45 = .ok (.iadd, 1) := by decide +kernel
theorem d_Mo_travels_46 : decode b_Mo_travels 46 = .ok (.iload_n 3, 1) := by decide +kernel
theorem d_Mo_travels_47 : decode b_Mo_travels 47 = .ok (.iastore, 1) := by decide +kernel
theorem d_Mo_travels_48 : decode b_Mo_travels 48 = .ok (.aload_n 0, 1) := by decide +kernel
theorem d_Mo_travels_49 : decode b_Mo_travels 49 = .ok (.getfield 46, 3) := by decide +kernel
theorem d_Mo_travels_52 : decode b_Mo_travels 52 = .ok (.iconst 5, 1) := by decide +kernel
theorem d_Mo_travels_53 : decode b_Mo_travels 53 = .ok (.iload_n 2, 1) := by decide +kernel
theorem d_Mo_travels_54 : decode b_Mo_travels 54 = .ok (.imul, 1) := by decide +kernel
theorem d_Mo_travels_55 : decode b_Mo_travels 55 = .ok (.iload_n 1, 1) := by decide +kernel
theorem d_Mo_travels_56 : decode b_Mo_travels 56 = .ok (.iadd, 1) := by decide +kernel
theorem d_Mo_travels_57 : decode b_Mo_travels 57 = .ok (.iload_n 3, 1) := by decide +kernel
theorem d_Mo_travels_58 : decode b_Mo_travels 58 = .ok (.iastore, 1) := by decide +kernel
theorem d_Mo_travels_59 : decode b_Mo_travels 59 = .ok (.aload_n 0, 1) := by decide +kernel
theorem d_Mo_travels_60 : decode b_Mo_travels 60 = .ok (.iconst 0, 1) := by decide +kernel
theorem d_Mo_travels_61 : decode b_Mo_travels 61 = .ok (.putfield 87, 3) := by decide +kernel
theorem d_Mo_travels_64 : decode b_Mo_travels 64 = .ok (.iconst 1, 1) := by decide +kernel
theorem d_Mo_travels_65 : decode b_Mo_travels 65 = .ok (.ireturn, 1) := by decide +kernel
def s_Mo_travels_0 (P_Mo_isPlace : MI → ML → Int32 → Prop) (Q_Mo_isPlace : MI → ML → Int32 → Int32 → MI → ML → Prop) (P_Mo_in : MI → ML → Int32 → Int32 → Int32 → Prop) (Q_Mo_in : MI → ML → Int32 → Int32 → Int32 → Int32 → MI → ML → Prop) (σ : MI) (τ : ML) (a1 : Int32) (a2 : Int32) (a3 : Int32) (R : Int32 → MI → ML → Prop) : Prop :=
  ∀ s2 : MI, s2 = st2 σ 29 0 0 → (P_Mo_isPlace s2 τ a1 ∧ ∀ (r6 : Int32) (s6 : MI) (t6 : ML), Q_Mo_isPlace s2 τ a1 r6 s6 t6 → ((r6 = 0 →
  ((0 = (0 : Int32) ∨ 0 = (1 : Int32)) ∧ R 0 s6 t6)) ∧
  (¬ r6 = 0 →
  (P_Mo_isPlace s6 t6 a2 ∧ ∀ (r13 : Int32) (s13 : MI) (t13 : ML), Q_Mo_isPlace s6 t6 a2 r13 s13 t13 → ((r13 = 0 →
    ((0 = (0 : Int32) ∨ 0 = (1 : Int32)) ∧ R 0 s13 t13)) ∧
    (¬ r13 = 0 →
    ((a1 = a2 →
      ((0 = (0 : Int32) ∨ 0 = (1 : Int32)) ∧ R 0 s13 t13)) ∧
      (¬ a1 = a2 →
      (P_Mo_in s13 t13 a3 0 300 ∧ ∀ (r29 : Int32) (s29 : MI) (t29 : ML), Q_Mo_in s13 t13 a3 0 300 r29 s29 t29 → ((¬ r29 = 0 →
        (vp_in ((5 * a1) + a2) 25 ∧ (∀ s47 : MI, s47 = st2 s29 42 (Int32.toNatClampNeg ((5 * a1) + a2)) a3 → (vp_in ((5 * a2) + a1) 25 ∧ (∀ s58 : MI, s58 = st2 s47 42 (Int32.toNatClampNeg ((5 * a2) + a1)) a3 → (∀ s61 : MI, s61 = st2 s58 29 18 0 → ((1 = (0 : Int32) ∨ 1 = (1 : Int32)) ∧ R 1 s61 t29))))))) ∧
        (r29 = 0 →
        ((0 = (0 : Int32) ∨ 0 = (1 : Int32)) ∧ R 0 s29 t29))))))))))))
set_option maxHeartbeats 4000000 in
set_option maxRecDepth 100000 in
theorem k_Mo_travels (l : Launch) (D : va_G) (ad : Nat → Nat) (ci cl : ClassId)
    (pre : MI → ML → Int32 → Int32 → Int32 → Prop) (post : MI → ML → Int32 → Int32 → Int32 → Int32 → MI → ML → Prop) (P_Mo_isPlace : MI → ML → Int32 → Prop) (Q_Mo_isPlace : MI → ML → Int32 → Int32 → MI → ML → Prop) (P_Mo_in : MI → ML → Int32 → Int32 → Int32 → Prop) (Q_Mo_in : MI → ML → Int32 → Int32 → Int32 → Int32 → MI → ML → Prop)
    (h_Mo_isPlace : ∀ (sz : Nat) (σ : MI) (τ : ML) (b0 : Int32), P_Mo_isPlace σ τ b0 → gMi l D (xw ad ci cl) (xt ci cl) (xa ad) y_Mo_isPlace w_Mo_isPlace rm_Mo_isPlace [.int b0] sz σ τ (Q_Mo_isPlace σ τ b0))
    (h_Mo_in : ∀ (sz : Nat) (σ : MI) (τ : ML) (b0 : Int32) (b1 : Int32) (b2 : Int32), P_Mo_in σ τ b0 b1 b2 → gMi l D (xw ad ci cl) (xt ci cl) (xa ad) y_Mo_in w_Mo_in rm_Mo_in [.int b0, .int b1, .int b2] sz σ τ (Q_Mo_in σ τ b0 b1 b2))
    (v0 : ∀ (σ0 : MI) (τ0 : ML) (a1 : Int32) (a2 : Int32) (a3 : Int32), pre σ0 τ0 a1 a2 a3 → s_Mo_travels_0 P_Mo_isPlace Q_Mo_isPlace P_Mo_in Q_Mo_in σ0 τ0 a1 a2 a3 (post σ0 τ0 a1 a2 a3)) :
    ∀ (sz : Nat) (σ0 : MI) (τ0 : ML) (a1 : Int32) (a2 : Int32) (a3 : Int32), pre σ0 τ0 a1 a2 a3 → gMi l D (xw ad ci cl) (xt ci cl) (xa ad) y_Mo_travels w_Mo_travels rm_Mo_travels [.ref (ad 29), .int a1, .int a2, .int a3] sz σ0 τ0 (post σ0 τ0 a1 a2 a3) := by
  intro sz σ0 τ0 a1 a2 a3 hpre
  refine gk_ofWi (cc := b_Mo_travels) (maxL := 4) (ret := (some .boolean)) (by decide) rfl xa_ok (Nat.le_of_ble_eq_true rfl) ?_
  intro p e s m below meth c ls hx hb hr hlocks hml hown hts hK hP hD hS hl
  have hl : lv_has ls 4 [(0, .ref (ad 29)), (1, .int a1), (2, .int a2), (3, .int a3)] := hl
  have hown : s.vm.findClass R_Mo = some m.cls := hown
  have hv := v0 σ0 τ0 a1 a2 a3 hpre
  unfold s_Mo_travels_0 at hv
  refine lv_aload_n hx hb d_Mo_travels_0 rfl (lv_at hl 0 rfl) ?_
  refine lv_iconst (v := 0) hx hb d_Mo_travels_1 (by decide) ?_
  refine va_put (D := D) (ci := 7) (v := .int 0) (ty := .int) (fs := [.int (σ0 29 0), .int (σ0 29 1), .ref (ad 30), .ref (ad 31), .ref (ad 32), .ref (ad 33), .ref (ad 34), .ref (ad 35), .int (σ0 29 8), .ref (ad 36), .int (σ0 29 10), .ref (ad 37), .ref (ad 38), .ref (ad 39), .ref (ad 40), .ref (ad 41), .ref (ad 42), .int (σ0 29 17), .int (σ0 29 18), .ref (ad 43), .ref (ad 44), .int (σ0 29 21), .ref (ad 45), .ref (ad 46)]) (C := R_Mo) (T := F_Mo) (N := 24) hx hb hts iw_Mo ty_Mo ty_Mo_ok nn_Mo hown hK hP hD hS 29 rfl rfl 0 (by decide) (hts _ t_w247) (fun _ h9 => h9) rfl (by decide +kernel) rfl rfl (Nat.le_of_ble_eq_true rfl) d_Mo_travels_2 (fun H locs hP hD hS => ?_)
  rw [xf_29_0] at hP hD
  obtain ⟨s2, es2⟩ : ∃ z : MI, z = st2 σ0 29 0 0 := ⟨_, rfl⟩
  rw [← es2] at hP hD
  replace hv := hv s2 es2
  refine lv_iload_n hx hb d_Mo_travels_5 rfl (lv_at hl 1 rfl) ?_
  obtain ⟨hg, hv⟩ := hv
  refine gk_callSi (As := [.int a1]) (rest := []) ⟨hx, hb, hml, hown, hts⟩ (h_Mo_isPlace _ s2 τ0 a1 hg) (gk_cwS 1 hts t_w263 rfl rfl rfl (hts _ t_w261) (hts _ t_w262) (hts _ t_w252) (by decide +kernel) ⟨Nat.le_of_ble_eq_true rfl, Nat.le_of_ble_eq_true rfl⟩) hK hP hD hS rfl hl.1 rfl (lv_room (Nat.le_of_ble_eq_true rfl)) d_Mo_travels_6 ⟨Nat.zero_le _, Nat.zero_le _⟩ ?_
  intro r6 s6 t6 H locs hw hP hD hS
  replace hv := hv r6 s6 t6 hw
  refine lv_if_eq (tgt := 35) hx hb d_Mo_travels_9 (by decide) (fun hc => ?_) (fun hc => ?_)
  · replace hv := hv.1 hc
    refine lv_iconst (v := 0) hx hb d_Mo_travels_35 (by decide) ?_
    obtain ⟨hz, hv⟩ := hv
    exact gk_zret hx hb hr hlocks (gk_nz hz) hK hP hD hS hv d_Mo_travels_36
  · replace hv := hv.2 hc
    refine lv_iload_n hx hb d_Mo_travels_12 rfl (lv_at hl 2 rfl) ?_
    obtain ⟨hg, hv⟩ := hv
    refine gk_callSi (As := [.int a2]) (rest := []) ⟨hx, hb, hml, hown, hts⟩ (h_Mo_isPlace _ s6 t6 a2 hg) (gk_cwS 1 hts t_w263 rfl rfl rfl (hts _ t_w261) (hts _ t_w262) (hts _ t_w252) (by decide +kernel) ⟨Nat.le_of_ble_eq_true rfl, Nat.le_of_ble_eq_true rfl⟩) hK hP hD hS rfl hl.1 rfl (lv_room (Nat.le_of_ble_eq_true rfl)) d_Mo_travels_13 ⟨Nat.zero_le _, Nat.zero_le _⟩ ?_
    intro r13 s13 t13 H locs hw hP hD hS
    replace hv := hv r13 s13 t13 hw
    refine lv_if_eq (tgt := 35) hx hb d_Mo_travels_16 (by decide) (fun hc => ?_) (fun hc => ?_)
    · replace hv := hv.1 hc
      refine lv_iconst (v := 0) hx hb d_Mo_travels_35 (by decide) ?_
      obtain ⟨hz, hv⟩ := hv
      exact gk_zret hx hb hr hlocks (gk_nz hz) hK hP hD hS hv d_Mo_travels_36
    · replace hv := hv.2 hc
      refine lv_iload_n hx hb d_Mo_travels_19 rfl (lv_at hl 1 rfl) ?_
      refine lv_iload_n hx hb d_Mo_travels_20 rfl (lv_at hl 2 rfl) ?_
      refine lv_icmp_eq (tgt := 35) hx hb d_Mo_travels_21 (by decide) (fun hc => ?_) (fun hc => ?_)
      · replace hv := hv.1 hc
        refine lv_iconst (v := 0) hx hb d_Mo_travels_35 (by decide) ?_
        obtain ⟨hz, hv⟩ := hv
        exact gk_zret hx hb hr hlocks (gk_nz hz) hK hP hD hS hv d_Mo_travels_36
      · replace hv := hv.2 hc
        refine lv_iload_n hx hb d_Mo_travels_24 rfl (lv_at hl 3 rfl) ?_
        refine lv_iconst (v := 0) hx hb d_Mo_travels_25 (by decide) ?_
        refine lv_sipush (v := 300) hx hb d_Mo_travels_26 (by decide) ?_
        obtain ⟨hg, hv⟩ := hv
        refine gk_callSi (As := [.int a3, .int 0, .int 300]) (rest := []) ⟨hx, hb, hml, hown, hts⟩ (h_Mo_in _ s13 t13 a3 0 300 hg) (gk_cwS 3 hts t_w253 rfl rfl rfl (hts _ t_w250) (hts _ t_w251) (hts _ t_w252) (by decide +kernel) ⟨Nat.le_of_ble_eq_true rfl, Nat.le_of_ble_eq_true rfl⟩) hK hP hD hS rfl hl.1 rfl (lv_room (Nat.le_of_ble_eq_true rfl)) d_Mo_travels_29 ⟨Nat.zero_le _, Nat.zero_le _⟩ ?_
        intro r29 s29 t29 H locs hw hP hD hS
        replace hv := hv r29 s29 t29 hw
        refine lv_if_ne (tgt := 37) hx hb d_Mo_travels_32 (by decide) (fun hc => ?_) (fun hc => ?_)
        · replace hv := hv.1 hc
          refine lv_aload_n hx hb d_Mo_travels_37 rfl (lv_at hl 0 rfl) ?_
          refine va_get (D := D) (ci := 7) (v := .ref (ad 42)) (C := R_Mo) (T := F_Mo) (N := 24) hx hb hts iw_Mo hown hK hP 29 rfl rfl 16 (by decide) (hts _ t_w276) (fun _ h9 => h9) rfl d_Mo_travels_38 ?_
          refine lv_iconst (v := 5) hx hb d_Mo_travels_41 (by decide) ?_
          refine lv_iload_n hx hb d_Mo_travels_42 rfl (lv_at hl 1 rfl) ?_
          refine lv_imul hx hb d_Mo_travels_43 ?_
          refine lv_iload_n hx hb d_Mo_travels_44 rfl (lv_at hl 2 rfl) ?_
          refine lv_iadd hx hb d_Mo_travels_45 ?_
          refine lv_iload_n hx hb d_Mo_travels_46 rfl (lv_at hl 3 rfl) ?_
          obtain ⟨hi, hv⟩ := hv
          refine va_iast hx hb hK hP hD hS 42 0 rfl rfl hi d_Mo_travels_47 (fun H locs hP hD hS => ?_)
          rw [xa_42] at hP hD
          obtain ⟨s47, es47⟩ : ∃ z : MI, z = st2 s29 42 (Int32.toNatClampNeg ((5 * a1) + a2)) a3 := ⟨_, rfl⟩
          rw [← es47] at hP hD
          replace hv := hv s47 es47
          refine lv_aload_n hx hb d_Mo_travels_48 rfl (lv_at hl 0 rfl) ?_
          refine va_get (D := D) (ci := 7) (v := .ref (ad 42)) (C := R_Mo) (T := F_Mo) (N := 24) hx hb hts iw_Mo hown hK hP 29 rfl rfl 16 (by decide) (hts _ t_w276) (fun _ h9 => h9) rfl d_Mo_travels_49 ?_
          refine lv_iconst (v := 5) hx hb d_Mo_travels_52 (by decide) ?_
          refine lv_iload_n hx hb d_Mo_travels_53 rfl (lv_at hl 2 rfl) ?_
          refine lv_imul hx hb d_Mo_travels_54 ?_
          refine lv_iload_n hx hb d_Mo_travels_55 rfl (lv_at hl 1 rfl) ?_
          refine lv_iadd hx hb d_Mo_travels_56 ?_
          refine lv_iload_n hx hb d_Mo_travels_57 rfl (lv_at hl 3 rfl) ?_
          obtain ⟨hi, hv⟩ := hv
          refine va_iast hx hb hK hP hD hS 42 0 rfl rfl hi d_Mo_travels_58 (fun H locs hP hD hS => ?_)
          rw [xa_42] at hP hD
          obtain ⟨s58, es58⟩ : ∃ z : MI, z = st2 s47 42 (Int32.toNatClampNeg ((5 * a2) + a1)) a3 := ⟨_, rfl⟩
          rw [← es58] at hP hD
          replace hv := hv s58 es58
          refine lv_aload_n hx hb d_Mo_travels_59 rfl (lv_at hl 0 rfl) ?_
          refine lv_iconst (v := 0) hx hb d_Mo_travels_60 (by decide) ?_
          refine va_put (D := D) (ci := 7) (v := .int 0) (ty := .boolean) (fs := [.int (s58 29 0), .int (s58 29 1), .ref (ad 30), .ref (ad 31), .ref (ad 32), .ref (ad 33), .ref (ad 34), .ref (ad 35), .int (s58 29 8), .ref (ad 36), .int (s58 29 10), .ref (ad 37), .ref (ad 38), .ref (ad 39), .ref (ad 40), .ref (ad 41), .ref (ad 42), .int (s58 29 17), .int (s58 29 18), .ref (ad 43), .ref (ad 44), .int (s58 29 21), .ref (ad 45), .ref (ad 46)]) (C := R_Mo) (T := F_Mo) (N := 24) hx hb hts iw_Mo ty_Mo ty_Mo_ok nn_Mo hown hK hP hD hS 29 rfl rfl 18 (by decide) (hts _ t_w268) (fun _ h9 => h9) rfl (by decide +kernel) rfl rfl (Nat.le_of_ble_eq_true rfl) d_Mo_travels_61 (fun H locs hP hD hS => ?_)
          rw [xf_29_18] at hP hD
          obtain ⟨s61, es61⟩ : ∃ z : MI, z = st2 s58 29 18 0 := ⟨_, rfl⟩
          rw [← es61] at hP hD
          replace hv := hv s61 es61
          refine lv_iconst (v := 1) hx hb d_Mo_travels_64 (by decide) ?_
          obtain ⟨hz, hv⟩ := hv
          exact gk_zret hx hb hr hlocks (gk_nz hz) hK hP hD hS hv d_Mo_travels_65
        · replace hv := hv.2 hc
          refine lv_iconst (v := 0) hx hb d_Mo_travels_35 (by decide) ?_
          obtain ⟨hz, hv⟩ := hv
          exact gk_zret hx hb hr hlocks (gk_nz hz) hK hP hD hS hv d_Mo_travels_36
theorem d_Mo_rest_0 : decode b_Mo_rest 0 = .ok (.aload_n 0, 1) := by decide +kernel
theorem d_Mo_rest_1 : decode b_Mo_rest 1 = .ok (.iconst 0, 1) := by decide +kernel
theorem d_Mo_rest_2 : decode b_Mo_rest 2 = .ok (.putfield 61, 3) := by decide +kernel
theorem d_Mo_rest_5 : decode b_Mo_rest 5 = .ok (.iload_n 1, 1) := by decide +kernel
theorem d_Mo_rest_6 : decode b_Mo_rest 6 = .ok (.iconst 0, 1) := by decide +kernel
theorem d_Mo_rest_7 : decode b_Mo_rest 7 = .ok (.sipush 300, 3) := by decide +kernel
theorem d_Mo_rest_10 : decode b_Mo_rest 10 = .ok (.invokestatic 71, 3) := by decide +kernel
theorem d_Mo_rest_13 : decode b_Mo_rest 13 = .ok (.ifCond .ne 5, 3) := by decide +kernel
theorem d_Mo_rest_16 : decode b_Mo_rest 16 = .ok (.iconst 0, 1) := by decide +kernel
theorem d_Mo_rest_17 : decode b_Mo_rest 17 = .ok (.ireturn, 1) := by decide +kernel
theorem d_Mo_rest_18 : decode b_Mo_rest 18 = .ok (.aload_n 0, 1) := by decide +kernel
theorem d_Mo_rest_19 : decode b_Mo_rest 19 = .ok (.iload_n 1, 1) := by decide +kernel
theorem d_Mo_rest_20 : decode b_Mo_rest 20 = .ok (.putfield 94, 3) := by decide +kernel
theorem d_Mo_rest_23 : decode b_Mo_rest 23 = .ok (.aload_n 0, 1) := by decide +kernel
theorem d_Mo_rest_24 : decode b_Mo_rest 24 = .ok (.iconst 0, 1) := by decide +kernel
theorem d_Mo_rest_25 : decode b_Mo_rest 25 = .ok (.putfield 87, 3) := by decide +kernel
theorem d_Mo_rest_28 : decode b_Mo_rest 28 = .ok (.iconst 1, 1) := by decide +kernel
theorem d_Mo_rest_29 : decode b_Mo_rest 29 = .ok (.ireturn, 1) := by decide +kernel
def s_Mo_rest_0 (P_Mo_in : MI → ML → Int32 → Int32 → Int32 → Prop) (Q_Mo_in : MI → ML → Int32 → Int32 → Int32 → Int32 → MI → ML → Prop) (σ : MI) (τ : ML) (a1 : Int32) (R : Int32 → MI → ML → Prop) : Prop :=
  ∀ s2 : MI, s2 = st2 σ 29 0 0 → (P_Mo_in s2 τ a1 0 300 ∧ ∀ (r10 : Int32) (s10 : MI) (t10 : ML), Q_Mo_in s2 τ a1 0 300 r10 s10 t10 → ((¬ r10 = 0 →
  (∀ s20 : MI, s20 = st2 s10 29 17 a1 → (∀ s25 : MI, s25 = st2 s20 29 18 0 → ((1 = (0 : Int32) ∨ 1 = (1 : Int32)) ∧ R 1 s25 t10)))) ∧
  (r10 = 0 →
  ((0 = (0 : Int32) ∨ 0 = (1 : Int32)) ∧ R 0 s10 t10))))
set_option maxHeartbeats 4000000 in
set_option maxRecDepth 100000 in
theorem k_Mo_rest (l : Launch) (D : va_G) (ad : Nat → Nat) (ci cl : ClassId)
    (pre : MI → ML → Int32 → Prop) (post : MI → ML → Int32 → Int32 → MI → ML → Prop) (P_Mo_in : MI → ML → Int32 → Int32 → Int32 → Prop) (Q_Mo_in : MI → ML → Int32 → Int32 → Int32 → Int32 → MI → ML → Prop)
    (h_Mo_in : ∀ (sz : Nat) (σ : MI) (τ : ML) (b0 : Int32) (b1 : Int32) (b2 : Int32), P_Mo_in σ τ b0 b1 b2 → gMi l D (xw ad ci cl) (xt ci cl) (xa ad) y_Mo_in w_Mo_in rm_Mo_in [.int b0, .int b1, .int b2] sz σ τ (Q_Mo_in σ τ b0 b1 b2))
    (v0 : ∀ (σ0 : MI) (τ0 : ML) (a1 : Int32), pre σ0 τ0 a1 → s_Mo_rest_0 P_Mo_in Q_Mo_in σ0 τ0 a1 (post σ0 τ0 a1)) :
    ∀ (sz : Nat) (σ0 : MI) (τ0 : ML) (a1 : Int32), pre σ0 τ0 a1 → gMi l D (xw ad ci cl) (xt ci cl) (xa ad) y_Mo_rest w_Mo_rest rm_Mo_rest [.ref (ad 29), .int a1] sz σ0 τ0 (post σ0 τ0 a1) := by
  intro sz σ0 τ0 a1 hpre
  refine gk_ofWi (cc := b_Mo_rest) (maxL := 2) (ret := (some .boolean)) (by decide) rfl xa_ok (Nat.le_of_ble_eq_true rfl) ?_
  intro p e s m below meth c ls hx hb hr hlocks hml hown hts hK hP hD hS hl
  have hl : lv_has ls 2 [(0, .ref (ad 29)), (1, .int a1)] := hl
  have hown : s.vm.findClass R_Mo = some m.cls := hown
  have hv := v0 σ0 τ0 a1 hpre
  unfold s_Mo_rest_0 at hv
  refine lv_aload_n hx hb d_Mo_rest_0 rfl (lv_at hl 0 rfl) ?_
  refine lv_iconst (v := 0) hx hb d_Mo_rest_1 (by decide) ?_
  refine va_put (D := D) (ci := 7) (v := .int 0) (ty := .int) (fs := [.int (σ0 29 0), .int (σ0 29 1), .ref (ad 30), .ref (ad 31), .ref (ad 32), .ref (ad 33), .ref (ad 34), .ref (ad 35), .int (σ0 29 8), .ref (ad 36), .int (σ0 29 10), .ref (ad 37), .ref (ad 38), .ref (ad 39), .ref (ad 40), .ref (ad 41), .ref (ad 42), .int (σ0 29 17), .int (σ0 29 18), .ref (ad 43), .ref (ad 44), .int (σ0 29 21), .ref (ad 45), .ref (ad 46)]) (C := R_Mo) (T := F_Mo) (N := 24) hx hb hts iw_Mo ty_Mo ty_Mo_ok nn_Mo hown hK hP hD hS 29 rfl rfl 0 (by decide) (hts _ t_w247) (fun _ h9 => h9) rfl (by decide +kernel) rfl rfl (Nat.le_of_ble_eq_true rfl) d_Mo_rest_2 (fun H locs hP hD hS => ?_)
  rw [xf_29_0] at hP hD
  obtain ⟨s2, es2⟩ : ∃ z : MI, z = st2 σ0 29 0 0 := ⟨_, rfl⟩
  rw [← es2] at hP hD
  replace hv := hv s2 es2
  refine lv_iload_n hx hb d_Mo_rest_5 rfl (lv_at hl 1 rfl) ?_
  refine lv_iconst (v := 0) hx hb d_Mo_rest_6 (by decide) ?_
  refine lv_sipush (v := 300) hx hb d_Mo_rest_7 (by decide) ?_
  obtain ⟨hg, hv⟩ := hv
  refine gk_callSi (As := [.int a1, .int 0, .int 300]) (rest := []) ⟨hx, hb, hml, hown, hts⟩ (h_Mo_in _ s2 τ0 a1 0 300 hg) (gk_cwS 3 hts t_w253 rfl rfl rfl (hts _ t_w250) (hts _ t_w251) (hts _ t_w252) (by decide +kernel) ⟨Nat.le_of_ble_eq_true rfl, Nat.le_of_ble_eq_true rfl⟩) hK hP hD hS rfl hl.1 rfl (lv_room (Nat.le_of_ble_eq_true rfl)) d_Mo_rest_10 ⟨Nat.zero_le _, Nat.zero_le _⟩ ?_
  intro r10 s10 t10 H locs hw hP hD hS
  replace hv := hv r10 s10 t10 hw
  refine lv_if_ne (tgt := 18) hx hb d_Mo_rest_13 (by decide) (fun hc => ?_) (fun hc => ?_)
  · replace hv := hv.1 hc
    refine lv_aload_n hx hb d_Mo_rest_18 rfl (lv_at hl 0 rfl) ?_
    refine lv_iload_n hx hb d_Mo_rest_19 rfl (lv_at hl 1 rfl) ?_
    refine va_put (D := D) (ci := 7) (v := .int a1) (ty := .int) (fs := [.int (s10 29 0), .int (s10 29 1), .ref (ad 30), .ref (ad 31), .ref (ad 32), .ref (ad 33), .ref (ad 34), .ref (ad 35), .int (s10 29 8), .ref (ad 36), .int (s10 29 10), .ref (ad 37), .ref (ad 38), .ref (ad 39), .ref (ad 40), .ref (ad 41), .ref (ad 42), .int (s10 29 17), .int (s10 29 18), .ref (ad 43), .ref (ad 44), .int (s10 29 21), .ref (ad 45), .ref (ad 46)]) (C := R_Mo) (T := F_Mo) (N := 24) hx hb hts iw_Mo ty_Mo ty_Mo_ok nn_Mo hown hK hP hD hS 29 rfl rfl 17 (by decide) (hts _ t_w277) (fun _ h9 => h9) rfl (by decide +kernel) rfl rfl (Nat.le_of_ble_eq_true rfl) d_Mo_rest_20 (fun H locs hP hD hS => ?_)
    rw [xf_29_17] at hP hD
    obtain ⟨s20, es20⟩ : ∃ z : MI, z = st2 s10 29 17 a1 := ⟨_, rfl⟩
    rw [← es20] at hP hD
    replace hv := hv s20 es20
    refine lv_aload_n hx hb d_Mo_rest_23 rfl (lv_at hl 0 rfl) ?_
    refine lv_iconst (v := 0) hx hb d_Mo_rest_24 (by decide) ?_
    refine va_put (D := D) (ci := 7) (v := .int 0) (ty := .boolean) (fs := [.int (s20 29 0), .int (s20 29 1), .ref (ad 30), .ref (ad 31), .ref (ad 32), .ref (ad 33), .ref (ad 34), .ref (ad 35), .int (s20 29 8), .ref (ad 36), .int (s20 29 10), .ref (ad 37), .ref (ad 38), .ref (ad 39), .ref (ad 40), .ref (ad 41), .ref (ad 42), .int (s20 29 17), .int (s20 29 18), .ref (ad 43), .ref (ad 44), .int (s20 29 21), .ref (ad 45), .ref (ad 46)]) (C := R_Mo) (T := F_Mo) (N := 24) hx hb hts iw_Mo ty_Mo ty_Mo_ok nn_Mo hown hK hP hD hS 29 rfl rfl 18 (by decide) (hts _ t_w268) (fun _ h9 => h9) rfl (by decide +kernel) rfl rfl (Nat.le_of_ble_eq_true rfl) d_Mo_rest_25 (fun H locs hP hD hS => ?_)
    rw [xf_29_18] at hP hD
    obtain ⟨s25, es25⟩ : ∃ z : MI, z = st2 s20 29 18 0 := ⟨_, rfl⟩
    rw [← es25] at hP hD
    replace hv := hv s25 es25
    refine lv_iconst (v := 1) hx hb d_Mo_rest_28 (by decide) ?_
    obtain ⟨hz, hv⟩ := hv
    exact gk_zret hx hb hr hlocks (gk_nz hz) hK hP hD hS hv d_Mo_rest_29
  · replace hv := hv.2 hc
    refine lv_iconst (v := 0) hx hb d_Mo_rest_16 (by decide) ?_
    obtain ⟨hz, hv⟩ := hv
    exact gk_zret hx hb hr hlocks (gk_nz hz) hK hP hD hS hv d_Mo_rest_17
theorem d_Mo_rule_0 : decode b_Mo_rule 0 = .ok (.aload_n 0, 1) := by decide +kernel
theorem d_Mo_rule_1 : decode b_Mo_rule 1 = .ok (.iconst 0, 1) := by decide +kernel
theorem d_Mo_rule_2 : decode b_Mo_rule 2 = .ok (.putfield 61, 3) := by decide +kernel
theorem d_Mo_rule_5 : decode b_Mo_rule 5 = .ok (.aload_n 0, 1) := by decide +kernel
theorem d_Mo_rule_6 : decode b_Mo_rule 6 = .ok (.iload_n 1, 1) := by decide +kernel
theorem d_Mo_rule_7 : decode b_Mo_rule 7 = .ok (.invokevirtual 97, 3) := by decide +kernel
theorem d_Mo_rule_10 : decode b_Mo_rule 10 = .ok (.ifCond .eq 12, 3) := by decide +kernel
theorem d_Mo_rule_13 : decode b_Mo_rule 13 = .ok (.iload_n 2, 1) := by decide +kernel
theorem d_Mo_rule_14 : decode b_Mo_rule 14 = .ok (.iconst 0, 1) := by decide +kernel
theorem d_Mo_rule_15 : decode b_Mo_rule 15 = .ok (.iconst 4, 1) := by decide +kernel
theorem d_Mo_rule_16 : decode b_Mo_rule 16 = .ok (.invokestatic 71, 3) := by decide +kernel
theorem d_Mo_rule_19 : decode b_Mo_rule 19 = .ok (.ifCond .ne 5, 3) := by decide +kernel
theorem d_Mo_rule_22 : decode b_Mo_rule 22 = .ok (.iconst 0, 1) := by decide +kernel
theorem d_Mo_rule_23 : decode b_Mo_rule 23 = .ok (.ireturn, 1) := by decide +kernel
theorem d_Mo_rule_24 : decode b_Mo_rule 24 = .ok (.aload_n 0, 1) := by decide +kernel
theorem d_Mo_rule_25 : decode b_Mo_rule 25 = .ok (.getfield 22, 3) := by decide +kernel
theorem d_Mo_rule_28 : decode b_Mo_rule 28 = .ok (.iload_n 1, 1) := by decide +kernel
theorem d_Mo_rule_29 : decode b_Mo_rule 29 = .ok (.iload_n 2, 1) := by decide +kernel
theorem d_Mo_rule_30 : decode b_Mo_rule 30 = .ok (.iastore, 1) := by decide +kernel
theorem d_Mo_rule_31 : decode b_Mo_rule 31 = .ok (.aload_n 0, 1) := by decide +kernel
theorem d_Mo_rule_32 : decode b_Mo_rule 32 = .ok (.iconst 0, 1) := by decide +kernel
theorem d_Mo_rule_33 : decode b_Mo_rule 33 = .ok (.putfield 87, 3) := by decide +kernel
theorem d_Mo_rule_36 : decode b_Mo_rule 36 = .ok (.iconst 1, 1) := by decide +kernel
theorem d_Mo_rule_37 : decode b_Mo_rule 37 = .ok (.ireturn, 1) := by decide +kernel
def s_Mo_rule_0 (P_Mo_isPerson : MI → ML → Int32 → Prop) (Q_Mo_isPerson : MI → ML → Int32 → Int32 → MI → ML → Prop) (P_Mo_in : MI → ML → Int32 → Int32 → Int32 → Prop) (Q_Mo_in : MI → ML → Int32 → Int32 → Int32 → Int32 → MI → ML → Prop) (σ : MI) (τ : ML) (a1 : Int32) (a2 : Int32) (R : Int32 → MI → ML → Prop) : Prop :=
  ∀ s2 : MI, s2 = st2 σ 29 0 0 → (P_Mo_isPerson s2 τ a1 ∧ ∀ (r7 : Int32) (s7 : MI) (t7 : ML), Q_Mo_isPerson s2 τ a1 r7 s7 t7 → ((r7 = 0 →
  ((0 = (0 : Int32) ∨ 0 = (1 : Int32)) ∧ R 0 s7 t7)) ∧
  (¬ r7 = 0 →
  (P_Mo_in s7 t7 a2 0 4 ∧ ∀ (r16 : Int32) (s16 : MI) (t16 : ML), Q_Mo_in s7 t7 a2 0 4 r16 s16 t16 → ((¬ r16 = 0 →
    (vp_in a1 4 ∧ (∀ s30 : MI, s30 = st2 s16 34 (Int32.toNatClampNeg a1) a2 → (∀ s33 : MI, s33 = st2 s30 29 18 0 → ((1 = (0 : Int32) ∨ 1 = (1 : Int32)) ∧ R 1 s33 t16))))) ∧
    (r16 = 0 →
    ((0 = (0 : Int32) ∨ 0 = (1 : Int32)) ∧ R 0 s16 t16)))))))
set_option maxHeartbeats 4000000 in
set_option maxRecDepth 100000 in
theorem k_Mo_rule (l : Launch) (D : va_G) (ad : Nat → Nat) (ci cl : ClassId)
    (pre : MI → ML → Int32 → Int32 → Prop) (post : MI → ML → Int32 → Int32 → Int32 → MI → ML → Prop) (P_Mo_isPerson : MI → ML → Int32 → Prop) (Q_Mo_isPerson : MI → ML → Int32 → Int32 → MI → ML → Prop) (P_Mo_in : MI → ML → Int32 → Int32 → Int32 → Prop) (Q_Mo_in : MI → ML → Int32 → Int32 → Int32 → Int32 → MI → ML → Prop)
    (h_Mo_isPerson : ∀ (sz : Nat) (σ : MI) (τ : ML) (b0 : Int32), P_Mo_isPerson σ τ b0 → gMi l D (xw ad ci cl) (xt ci cl) (xa ad) y_Mo_isPerson w_Mo_isPerson rm_Mo_isPerson [.ref (ad 29), .int b0] sz σ τ (Q_Mo_isPerson σ τ b0))
    (h_Mo_in : ∀ (sz : Nat) (σ : MI) (τ : ML) (b0 : Int32) (b1 : Int32) (b2 : Int32), P_Mo_in σ τ b0 b1 b2 → gMi l D (xw ad ci cl) (xt ci cl) (xa ad) y_Mo_in w_Mo_in rm_Mo_in [.int b0, .int b1, .int b2] sz σ τ (Q_Mo_in σ τ b0 b1 b2))
    (v0 : ∀ (σ0 : MI) (τ0 : ML) (a1 : Int32) (a2 : Int32), pre σ0 τ0 a1 a2 → s_Mo_rule_0 P_Mo_isPerson Q_Mo_isPerson P_Mo_in Q_Mo_in σ0 τ0 a1 a2 (post σ0 τ0 a1 a2)) :
    ∀ (sz : Nat) (σ0 : MI) (τ0 : ML) (a1 : Int32) (a2 : Int32), pre σ0 τ0 a1 a2 → gMi l D (xw ad ci cl) (xt ci cl) (xa ad) y_Mo_rule w_Mo_rule rm_Mo_rule [.ref (ad 29), .int a1, .int a2] sz σ0 τ0 (post σ0 τ0 a1 a2) := by
  intro sz σ0 τ0 a1 a2 hpre
  refine gk_ofWi (cc := b_Mo_rule) (maxL := 3) (ret := (some .boolean)) (by decide) rfl xa_ok (Nat.le_of_ble_eq_true rfl) ?_
  intro p e s m below meth c ls hx hb hr hlocks hml hown hts hK hP hD hS hl
  have hl : lv_has ls 3 [(0, .ref (ad 29)), (1, .int a1), (2, .int a2)] := hl
  have hown : s.vm.findClass R_Mo = some m.cls := hown
  have hv := v0 σ0 τ0 a1 a2 hpre
  unfold s_Mo_rule_0 at hv
  refine lv_aload_n hx hb d_Mo_rule_0 rfl (lv_at hl 0 rfl) ?_
  refine lv_iconst (v := 0) hx hb d_Mo_rule_1 (by decide) ?_
  refine va_put (D := D) (ci := 7) (v := .int 0) (ty := .int) (fs := [.int (σ0 29 0), .int (σ0 29 1), .ref (ad 30), .ref (ad 31), .ref (ad 32), .ref (ad 33), .ref (ad 34), .ref (ad 35), .int (σ0 29 8), .ref (ad 36), .int (σ0 29 10), .ref (ad 37), .ref (ad 38), .ref (ad 39), .ref (ad 40), .ref (ad 41), .ref (ad 42), .int (σ0 29 17), .int (σ0 29 18), .ref (ad 43), .ref (ad 44), .int (σ0 29 21), .ref (ad 45), .ref (ad 46)]) (C := R_Mo) (T := F_Mo) (N := 24) hx hb hts iw_Mo ty_Mo ty_Mo_ok nn_Mo hown hK hP hD hS 29 rfl rfl 0 (by decide) (hts _ t_w247) (fun _ h9 => h9) rfl (by decide +kernel) rfl rfl (Nat.le_of_ble_eq_true rfl) d_Mo_rule_2 (fun H locs hP hD hS => ?_)
  rw [xf_29_0] at hP hD
  obtain ⟨s2, es2⟩ : ∃ z : MI, z = st2 σ0 29 0 0 := ⟨_, rfl⟩
  rw [← es2] at hP hD
  replace hv := hv s2 es2
  refine lv_aload_n hx hb d_Mo_rule_5 rfl (lv_at hl 0 rfl) ?_
  refine lv_iload_n hx hb d_Mo_rule_6 rfl (lv_at hl 1 rfl) ?_
  obtain ⟨hg, hv⟩ := hv
  refine gk_callVi (As := [.int a1]) (rest := []) (b := ad 29) ⟨hx, hb, hml, hown, hts⟩ (h_Mo_isPerson _ s2 τ0 a1 hg) (gk_cwV 1 hts t_w281 rfl rfl rfl (hts _ t_w278) (hts _ t_w279) (hts _ t_w280) (hts _ t_w252) (by decide +kernel) ⟨Nat.le_of_ble_eq_true rfl, Nat.le_of_ble_eq_true rfl⟩) hK hP hD hS (va_recv hK hP (ci := 7) (q0 := 29) rfl rfl) rfl hl.1 rfl (lv_room (Nat.le_of_ble_eq_true rfl)) d_Mo_rule_7 ⟨Nat.zero_le _, Nat.zero_le _⟩ ?_
  intro r7 s7 t7 H locs hw hP hD hS
  replace hv := hv r7 s7 t7 hw
  refine lv_if_eq (tgt := 22) hx hb d_Mo_rule_10 (by decide) (fun hc => ?_) (fun hc => ?_)
  · replace hv := hv.1 hc
    refine lv_iconst (v := 0) hx hb d_Mo_rule_22 (by decide) ?_
    obtain ⟨hz, hv⟩ := hv
    exact gk_zret hx hb hr hlocks (gk_nz hz) hK hP hD hS hv d_Mo_rule_23
  · replace hv := hv.2 hc
    refine lv_iload_n hx hb d_Mo_rule_13 rfl (lv_at hl 2 rfl) ?_
    refine lv_iconst (v := 0) hx hb d_Mo_rule_14 (by decide) ?_
    refine lv_iconst (v := 4) hx hb d_Mo_rule_15 (by decide) ?_
    obtain ⟨hg, hv⟩ := hv
    refine gk_callSi (As := [.int a2, .int 0, .int 4]) (rest := []) ⟨hx, hb, hml, hown, hts⟩ (h_Mo_in _ s7 t7 a2 0 4 hg) (gk_cwS 3 hts t_w253 rfl rfl rfl (hts _ t_w250) (hts _ t_w251) (hts _ t_w252) (by decide +kernel) ⟨Nat.le_of_ble_eq_true rfl, Nat.le_of_ble_eq_true rfl⟩) hK hP hD hS rfl hl.1 rfl (lv_room (Nat.le_of_ble_eq_true rfl)) d_Mo_rule_16 ⟨Nat.zero_le _, Nat.zero_le _⟩ ?_
    intro r16 s16 t16 H locs hw hP hD hS
    replace hv := hv r16 s16 t16 hw
    refine lv_if_ne (tgt := 24) hx hb d_Mo_rule_19 (by decide) (fun hc => ?_) (fun hc => ?_)
    · replace hv := hv.1 hc
      refine lv_aload_n hx hb d_Mo_rule_24 rfl (lv_at hl 0 rfl) ?_
      refine va_get (D := D) (ci := 7) (v := .ref (ad 34)) (C := R_Mo) (T := F_Mo) (N := 24) hx hb hts iw_Mo hown hK hP 29 rfl rfl 6 (by decide) (hts _ t_w282) (fun _ h9 => h9) rfl d_Mo_rule_25 ?_
      refine lv_iload_n hx hb d_Mo_rule_28 rfl (lv_at hl 1 rfl) ?_
      refine lv_iload_n hx hb d_Mo_rule_29 rfl (lv_at hl 2 rfl) ?_
      obtain ⟨hi, hv⟩ := hv
      refine va_iast hx hb hK hP hD hS 34 0 rfl rfl hi d_Mo_rule_30 (fun H locs hP hD hS => ?_)
      rw [xa_34] at hP hD
      obtain ⟨s30, es30⟩ : ∃ z : MI, z = st2 s16 34 (Int32.toNatClampNeg a1) a2 := ⟨_, rfl⟩
      rw [← es30] at hP hD
      replace hv := hv s30 es30
      refine lv_aload_n hx hb d_Mo_rule_31 rfl (lv_at hl 0 rfl) ?_
      refine lv_iconst (v := 0) hx hb d_Mo_rule_32 (by decide) ?_
      refine va_put (D := D) (ci := 7) (v := .int 0) (ty := .boolean) (fs := [.int (s30 29 0), .int (s30 29 1), .ref (ad 30), .ref (ad 31), .ref (ad 32), .ref (ad 33), .ref (ad 34), .ref (ad 35), .int (s30 29 8), .ref (ad 36), .int (s30 29 10), .ref (ad 37), .ref (ad 38), .ref (ad 39), .ref (ad 40), .ref (ad 41), .ref (ad 42), .int (s30 29 17), .int (s30 29 18), .ref (ad 43), .ref (ad 44), .int (s30 29 21), .ref (ad 45), .ref (ad 46)]) (C := R_Mo) (T := F_Mo) (N := 24) hx hb hts iw_Mo ty_Mo ty_Mo_ok nn_Mo hown hK hP hD hS 29 rfl rfl 18 (by decide) (hts _ t_w268) (fun _ h9 => h9) rfl (by decide +kernel) rfl rfl (Nat.le_of_ble_eq_true rfl) d_Mo_rule_33 (fun H locs hP hD hS => ?_)
      rw [xf_29_18] at hP hD
      obtain ⟨s33, es33⟩ : ∃ z : MI, z = st2 s30 29 18 0 := ⟨_, rfl⟩
      rw [← es33] at hP hD
      replace hv := hv s33 es33
      refine lv_iconst (v := 1) hx hb d_Mo_rule_36 (by decide) ?_
      obtain ⟨hz, hv⟩ := hv
      exact gk_zret hx hb hr hlocks (gk_nz hz) hK hP hD hS hv d_Mo_rule_37
    · replace hv := hv.2 hc
      refine lv_iconst (v := 0) hx hb d_Mo_rule_22 (by decide) ?_
      obtain ⟨hz, hv⟩ := hv
      exact gk_zret hx hb hr hlocks (gk_nz hz) hK hP hD hS hv d_Mo_rule_23
theorem d_Mo_next_0 : decode b_Mo_next 0 = .ok (.iconst (-1), 1) := by decide +kernel
theorem d_Mo_next_1 : decode b_Mo_next 1 = .ok (.istore_n 3, 1) := by decide +kernel
theorem d_Mo_next_2 : decode b_Mo_next 2 = .ok (.iconst 0, 1) := by decide +kernel
theorem d_Mo_next_3 : decode b_Mo_next 3 = .ok (.istore 4, 2) := by decide +kernel
theorem d_Mo_next_5 : decode b_Mo_next 5 = .ok (.iload 4, 2) := by decide +kernel
theorem d_Mo_next_7 : decode b_Mo_next 7 = .ok (.aload_n 0, 1) := by decide +kernel
theorem d_Mo_next_8 : decode b_Mo_next 8 = .ok (.getfield 68, 3) := by decide +kernel
theorem d_Mo_next_11 : decode b_Mo_next 11 = .ok (.if_icmp .ge 131, 3) := by decide +kernel
theorem d_Mo_next_14 : decode b_Mo_next 14 = .ok (.iload_n 3, 1) := by decide +kernel
theorem d_Mo_next_15 : decode b_Mo_next 15 = .ok (.ifCond .ge 8, 3) := by decide +kernel
theorem d_Mo_next_18 : decode b_Mo_next 18 = .ok (.iload 4, 2) := by decide +kernel
theorem d_Mo_next_20 : decode b_Mo_next 20 = .ok (.goto 4, 3) := by decide +kernel
theorem d_Mo_next_23 : decode b_Mo_next 23 = .ok (.iload_n 3, 1) := by decide +kernel
theorem d_Mo_next_24 : decode b_Mo_next 24 = .ok (.istore 5, 2) := by decide +kernel
theorem d_Mo_next_26 : decode b_Mo_next 26 = .ok (.iload_n 2, 1) := by decide +kernel
theorem d_Mo_next_27 : decode b_Mo_next 27 = .ok (.ifCond .lt 59, 3) := by decide +kernel
theorem d_Mo_next_30 : decode b_Mo_next 30 = .ok (.aload_n 0, 1) := by decide +kernel
theorem d_Mo_next_31 : decode b_Mo_next 31 = .ok (.getfield 37, 3) := by decide +kernel
theorem d_Mo_next_34 : decode b_Mo_next 34 = .ok (.iload 4, 2) := by decide +kernel
theorem d_Mo_next_36 : decode b_Mo_next 36 = .ok (.iaload, 1) := by decide +kernel
theorem d_Mo_next_37 : decode b_Mo_next 37 = .ok (.aload_n 0, 1) := by decide +kernel
theorem d_Mo_next_38 : decode b_Mo_next 38 = .ok (.getfield 37, 3) := by decide +kernel
theorem d_Mo_next_41 : decode b_Mo_next 41 = .ok (.iload_n 2, 1) := by decide +kernel
theorem d_Mo_next_42 : decode b_Mo_next 42 = .ok (.ifCond .ge 8, 3) := by decide +kernel
theorem d_Mo_next_45 : decode b_Mo_next 45 = .ok (.iload 4, 2) := by decide +kernel
theorem d_Mo_next_47 : decode b_Mo_next 47 = .ok (.goto 4, 3) := by decide +kernel
theorem d_Mo_next_50 : decode b_Mo_next 50 = .ok (.iload_n 2, 1) := by decide +kernel
theorem d_Mo_next_51 : decode b_Mo_next 51 = .ok (.iaload, 1) := by decide +kernel
theorem d_Mo_next_52 : decode b_Mo_next 52 = .ok (.if_icmp .gt 34, 3) := by decide +kernel
theorem d_Mo_next_55 : decode b_Mo_next 55 = .ok (.aload_n 0, 1) := by decide +kernel
theorem d_Mo_next_56 : decode b_Mo_next 56 = .ok (.getfield 37, 3) := by decide +kernel
theorem d_Mo_next_59 : decode b_Mo_next 59 = .ok (.iload 4, 2) := by decide +kernel
theorem d_Mo_next_61 : decode b_Mo_next 61 = .ok (.iaload, 1) := by decide +kernel
theorem d_Mo_next_62 : decode b_Mo_next 62 = .ok (.aload_n 0, 1) := by decide +kernel
theorem d_Mo_next_63 : decode b_Mo_next 63 = .ok (.getfield 37, 3) := by decide +kernel
theorem d_Mo_next_66 : decode b_Mo_next 66 = .ok (.iload_n 2, 1) := by decide +kernel
theorem d_Mo_next_67 : decode b_Mo_next 67 = .ok (.ifCond .ge 8, 3) := by decide +kernel
theorem d_Mo_next_70 : decode b_Mo_next 70 = .ok (.iload 4, 2) := by decide +kernel
theorem d_Mo_next_72 : decode b_Mo_next 72 = .ok (.goto 4, 3) := by decide +kernel
theorem d_Mo_next_75 : decode b_Mo_next 75 = .ok (.iload_n 2, 1) := by decide +kernel
theorem d_Mo_next_76 : decode b_Mo_next 76 = .ok (.iaload, 1) := by decide +kernel
theorem d_Mo_next_77 : decode b_Mo_next 77 = .ok (.if_icmp .ne 13, 3) := by decide +kernel
theorem d_Mo_next_80 : decode b_Mo_next 80 = .ok (.iload 4, 2) := by decide +kernel
theorem d_Mo_next_82 : decode b_Mo_next 82 = .ok (.iload_n 2, 1) := by decide +kernel
theorem d_Mo_next_83 : decode b_Mo_next 83 = .ok (.if_icmp .le 7, 3) := by decide +kernel
theorem d_Mo_next_86 : decode b_Mo_next 86 = .ok (.iconst 1, 1) := by decide +kernel
theorem d_Mo_next_87 : decode b_Mo_next 87 = .ok (.goto 4, 3) := by decide +kernel
theorem d_Mo_next_90 : decode b_Mo_next 90 = .ok (.iconst 0, 1) := by decide +kernel
theorem d_Mo_next_91 : decode b_Mo_next 91 = .ok (.istore 6, 2) := by decide +kernel
theorem d_Mo_next_93 : decode b_Mo_next 93 = .ok (.iload_n 1, 1) := by decide +kernel
theorem d_Mo_next_94 : decode b_Mo_next 94 = .ok (.iload 4, 2) := by decide +kernel
theorem d_Mo_next_96 : decode b_Mo_next 96 = .ok (.ishr, 1) := by decide +kernel
theorem d_Mo_next_97 : decode b_Mo_next 97 = .ok (.iconst 1, 1) := by decide +kernel
theorem d_Mo_next_98 : decode b_Mo_next 98 = .ok (.iand, 1) := by decide +kernel
theorem d_Mo_next_99 : decode b_Mo_next 99 = .ok (.iconst 1, 1) := by decide +kernel
theorem d_Mo_next_100 : decode b_Mo_next 100 = .ok (.if_icmp .ne 34, 3) := by decide +kernel
theorem d_Mo_next_103 : decode b_Mo_next 103 = .ok (.iload 6, 2) := by decide +kernel
theorem d_Mo_next_105 : decode b_Mo_next 105 = .ok (.ifCond .eq 29, 3) := by decide +kernel
theorem d_Mo_next_108 : decode b_Mo_next 108 = .ok (.iload_n 3, 1) := by decide +kernel
theorem d_Mo_next_109 : decode b_Mo_next 109 = .ok (.ifCond .lt 20, 3) := by decide +kernel
theorem d_Mo_next_112 : decode b_Mo_next 112 = .ok (.aload_n 0, 1) := by decide +kernel
theorem d_Mo_next_113 : decode b_Mo_next 113 = .ok (.getfield 37, 3) := by decide +kernel
theorem d_Mo_next_116 : decode b_Mo_next 116 = .ok (.iload 4, 2) := by decide +kernel
theorem d_Mo_next_118 : decode b_Mo_next 118 = .ok (.iaload, 1) := by decide +kernel
theorem d_Mo_next_119 : decode b_Mo_next 119 = .ok (.aload_n 0, 1) := by decide +kernel
theorem d_Mo_next_120 : decode b_Mo_next 120 = .ok (.getfield 37, 3) := by decide +kernel
theorem d_Mo_next_123 : decode b_Mo_next 123 = .ok (.iload 5, 2) := by decide +kernel
theorem d_Mo_next_125 : decode b_Mo_next 125 = .ok (.iaload, 1) := by decide +kernel
theorem d_Mo_next_126 : decode b_Mo_next 126 = .ok (.if_icmp .ge 8, 3) := by decide +kernel
theorem d_Mo_next_129 : decode b_Mo_next 129 = .ok (.iload 4, 2) := by decide +kernel
theorem d_Mo_next_131 : decode b_Mo_next 131 = .ok (.goto 4, 3) := by decide +kernel
theorem d_Mo_next_134 : decode b_Mo_next 134 = .ok (.iload_n 3, 1) := by decide +kernel
theorem d_Mo_next_135 : decode b_Mo_next 135 = .ok (.istore_n 3, 1) := by decide +kernel
theorem d_Mo_next_136 : decode b_Mo_next 136 = .ok (.iinc 4 1, 3) := by decide +kernel
theorem d_Mo_next_139 : decode b_Mo_next 139 = .ok (.goto (-134), 3) := by decide +kernel
theorem d_Mo_next_142 : decode b_Mo_next 142 = .ok (.iload_n 3, 1) := by decide +kernel
theorem d_Mo_next_143 : decode b_Mo_next 143 = .ok (.ireturn, 1) := by decide +kernel
def s_Mo_next_93 (σ : MI) (τ : ML) (x1 : Int32) (x2 : Int32) (x3 : Int32) (x4 : Int32) (x5 : Int32) (x6 : Int32) (K5 : Int32 → Int32 → Int32 → Int32 → MI → ML → Prop) (R : Int32 → MI → ML → Prop) : Prop :=
  (¬ ((x1 >>> (x4 &&& 31)) &&& 1) = 1 →
  (∀ y136 : Int32, y136 = x4 + 1 → (K5 x1 x2 x3 y136 σ τ))) ∧
  (((x1 >>> (x4 &&& 31)) &&& 1) = 1 →
  ((x6 = 0 →
    (∀ y136 : Int32, y136 = x4 + 1 → (K5 x1 x2 x3 y136 σ τ))) ∧
    (¬ x6 = 0 →
    ((x3 < 0 →
      (∀ y136 : Int32, y136 = x4 + 1 → (K5 x1 x2 x4 y136 σ τ))) ∧
      (¬ x3 < 0 →
      (vp_in x4 7 ∧ (vp_in x5 7 ∧ (((σ 39 (Int32.toNatClampNeg x5)) ≤ (σ 39 (Int32.toNatClampNeg x4)) →
        (∀ y136 : Int32, y136 = x4 + 1 → (K5 x1 x2 x3 y136 σ τ))) ∧
        (¬ (σ 39 (Int32.toNatClampNeg x5)) ≤ (σ 39 (Int32.toNatClampNeg x4)) →
        (∀ y136 : Int32, y136 = x4 + 1 → (K5 x1 x2 x4 y136 σ τ)))))))))))
def s_Mo_next_80 (σ : MI) (τ : ML) (x1 : Int32) (x2 : Int32) (x3 : Int32) (x4 : Int32) (x5 : Int32) (K5 : Int32 → Int32 → Int32 → Int32 → MI → ML → Prop) (R : Int32 → MI → ML → Prop) : Prop :=
  (x4 ≤ x2 →
  (s_Mo_next_93 σ τ x1 x2 x3 x4 x5 0 K5 R)) ∧
  (¬ x4 ≤ x2 →
  (s_Mo_next_93 σ τ x1 x2 x3 x4 x5 1 K5 R))
def s_Mo_next_55 (σ : MI) (τ : ML) (x1 : Int32) (x2 : Int32) (x3 : Int32) (x4 : Int32) (x5 : Int32) (K5 : Int32 → Int32 → Int32 → Int32 → MI → ML → Prop) (R : Int32 → MI → ML → Prop) : Prop :=
  vp_in x4 7 ∧ ((0 ≤ x2 →
  (vp_in x2 7 ∧ ((¬ (σ 39 (Int32.toNatClampNeg x4)) = (σ 39 (Int32.toNatClampNeg x2)) →
    (s_Mo_next_93 σ τ x1 x2 x3 x4 x5 0 K5 R)) ∧
    ((σ 39 (Int32.toNatClampNeg x4)) = (σ 39 (Int32.toNatClampNeg x2)) →
    (s_Mo_next_80 σ τ x1 x2 x3 x4 x5 K5 R))))) ∧
  (¬ 0 ≤ x2 →
  (vp_in x4 7 ∧ ((¬ (σ 39 (Int32.toNatClampNeg x4)) = (σ 39 (Int32.toNatClampNeg x4)) →
    (s_Mo_next_93 σ τ x1 x2 x3 x4 x5 0 K5 R)) ∧
    ((σ 39 (Int32.toNatClampNeg x4)) = (σ 39 (Int32.toNatClampNeg x4)) →
    (s_Mo_next_80 σ τ x1 x2 x3 x4 x5 K5 R))))))
def s_Mo_next_26 (σ : MI) (τ : ML) (x1 : Int32) (x2 : Int32) (x3 : Int32) (x4 : Int32) (x5 : Int32) (K5 : Int32 → Int32 → Int32 → Int32 → MI → ML → Prop) (R : Int32 → MI → ML → Prop) : Prop :=
  (x2 < 0 →
  (s_Mo_next_93 σ τ x1 x2 x3 x4 x5 1 K5 R)) ∧
  (¬ x2 < 0 →
  (vp_in x4 7 ∧ ((0 ≤ x2 →
    (vp_in x2 7 ∧ (((σ 39 (Int32.toNatClampNeg x2)) < (σ 39 (Int32.toNatClampNeg x4)) →
      (s_Mo_next_93 σ τ x1 x2 x3 x4 x5 1 K5 R)) ∧
      (¬ (σ 39 (Int32.toNatClampNeg x2)) < (σ 39 (Int32.toNatClampNeg x4)) →
      (s_Mo_next_55 σ τ x1 x2 x3 x4 x5 K5 R))))) ∧
    (¬ 0 ≤ x2 →
    (vp_in x4 7 ∧ (((σ 39 (Int32.toNatClampNeg x4)) < (σ 39 (Int32.toNatClampNeg x4)) →
      (s_Mo_next_93 σ τ x1 x2 x3 x4 x5 1 K5 R)) ∧
      (¬ (σ 39 (Int32.toNatClampNeg x4)) < (σ 39 (Int32.toNatClampNeg x4)) →
      (s_Mo_next_55 σ τ x1 x2 x3 x4 x5 K5 R))))))))
def s_Mo_next_0 (σ : MI) (τ : ML) (a1 : Int32) (a2 : Int32) (K5 : Int32 → Int32 → Int32 → Int32 → MI → ML → Prop) (R : Int32 → MI → ML → Prop) : Prop :=
  ∀ y1 : Int32, y1 = (-1) → (K5 a1 a2 y1 0 σ τ)
def s_Mo_next_5 (σ : MI) (τ : ML) (x1 : Int32) (x2 : Int32) (x3 : Int32) (x4 : Int32) (K5 : Int32 → Int32 → Int32 → Int32 → MI → ML → Prop) (R : Int32 → MI → ML → Prop) : Prop :=
  ((σ 29 10) ≤ x4 →
  (R x3 σ τ)) ∧
  (¬ (σ 29 10) ≤ x4 →
  ((0 ≤ x3 →
    (s_Mo_next_26 σ τ x1 x2 x3 x4 x3 K5 R)) ∧
    (¬ 0 ≤ x3 →
    (s_Mo_next_26 σ τ x1 x2 x3 x4 x4 K5 R))))
set_option maxHeartbeats 4000000 in
set_option maxRecDepth 100000 in
theorem k_Mo_next (l : Launch) (D : va_G) (ad : Nat → Nat) (ci cl : ClassId)
    (pre : MI → ML → Int32 → Int32 → Prop) (post : MI → ML → Int32 → Int32 → Int32 → MI → ML → Prop)
    (I5 : MI → ML → Int32 → Int32 → Int32 → Int32 → Int32 → Int32 → MI → ML → Prop) (m5 : MI → ML → Int32 → Int32 → Int32 → Int32 → Int32 → Int32 → MI → ML → Nat)
    (v0 : ∀ (σ0 : MI) (τ0 : ML) (a1 : Int32) (a2 : Int32), pre σ0 τ0 a1 a2 → s_Mo_next_0 σ0 τ0 a1 a2 (fun z0 z1 z2 z3 σ9 τ9 => I5 σ0 τ0 a1 a2 z0 z1 z2 z3 σ9 τ9) (post σ0 τ0 a1 a2))
    (v5 : ∀ (σ0 : MI) (τ0 : ML) (a1 : Int32) (a2 : Int32) (x1 : Int32) (x2 : Int32) (x3 : Int32) (x4 : Int32) (σ : MI) (τ : ML), I5 σ0 τ0 a1 a2 x1 x2 x3 x4 σ τ → s_Mo_next_5 σ τ x1 x2 x3 x4 (fun z0 z1 z2 z3 σ9 τ9 => I5 σ0 τ0 a1 a2 z0 z1 z2 z3 σ9 τ9 ∧ m5 σ0 τ0 a1 a2 z0 z1 z2 z3 σ9 τ9 < m5 σ0 τ0 a1 a2 x1 x2 x3 x4 σ τ) (post σ0 τ0 a1 a2)) :
    ∀ (sz : Nat) (σ0 : MI) (τ0 : ML) (a1 : Int32) (a2 : Int32), pre σ0 τ0 a1 a2 → gMi l D (xw ad ci cl) (xt ci cl) (xa ad) y_Mo_next w_Mo_next rm_Mo_next [.ref (ad 29), .int a1, .int a2] sz σ0 τ0 (post σ0 τ0 a1 a2) := by
  intro sz σ0 τ0 a1 a2 hpre
  refine gk_ofWi (cc := b_Mo_next) (maxL := 7) (ret := (some .int)) (by decide) rfl xa_ok (Nat.le_of_ble_eq_true rfl) ?_
  intro p e s m below meth c ls hx hb hr hlocks hml hown hts hK hP hD hS hl
  have hl : lv_has ls 7 [(0, .ref (ad 29)), (1, .int a1), (2, .int a2)] := hl
  have hown : s.vm.findClass R_Mo = some m.cls := hown
  have hL : ∀ n : Nat, (∀ (x1 : Int32) (x2 : Int32) (x3 : Int32) (x4 : Int32) (σ : MI) (τ : ML) (H : Heap) (locs : List Loc) (ls : Array Slot), m5 σ0 τ0 a1 a2 x1 x2 x3 x4 σ τ < n → I5 σ0 τ0 a1 a2 x1 x2 x3 x4 σ τ → va_P D classes ((xw ad ci cl) σ τ) H → va_D (gA (xa ad) s.heap.size) ((xw ad ci cl) σ τ) → va_S (gA (xa ad) s.heap.size) s.heap H locs → lv_has ls 7 [(0, .ref (ad 29)), (1, .int x1), (2, .int x2), (3, .int x3), (4, .int x4)] → W p l e rm_Mo_next s m [.ref (ad 29), .int a1, .int a2].toArray below meth c H locs 0 0 (gQi D (xw ad ci cl) (xt ci cl) (xa ad) below [.ref (ad 29), .int a1, .int a2] s (post σ0 τ0 a1 a2)) (F0 m 5 ls [])) := by
    intro n
    induction n with
    | zero => exact fun _ _ _ _ _ _ _ _ _ hn => absurd hn (Nat.not_lt_zero _)
    | succ n ih =>
      · intro x1 x2 x3 x4 σ τ H locs ls hn hI hP hD hS hl
        have hv := v5 σ0 τ0 a1 a2 x1 x2 x3 x4 σ τ hI
        unfold s_Mo_next_5 at hv
        have j93 : ∀ (w1 : Int32) (w2 : Int32) (w3 : Int32) (w4 : Int32) (w5 : Int32) (w6 : Int32) (σ1 : MI) (τ1 : ML) (H : Heap) (locs : List Loc) (ls : Array Slot), s_Mo_next_93 σ1 τ1 w1 w2 w3 w4 w5 w6 (fun z0 z1 z2 z3 σ9 τ9 => I5 σ0 τ0 a1 a2 z0 z1 z2 z3 σ9 τ9 ∧ m5 σ0 τ0 a1 a2 z0 z1 z2 z3 σ9 τ9 < m5 σ0 τ0 a1 a2 x1 x2 x3 x4 σ τ) (post σ0 τ0 a1 a2) → va_P D classes ((xw ad ci cl) σ1 τ1) H → va_D (gA (xa ad) s.heap.size) ((xw ad ci cl) σ1 τ1) → va_S (gA (xa ad) s.heap.size) s.heap H locs → lv_has ls 7 [(0, .ref (ad 29)), (1, .int w1), (2, .int w2), (3, .int w3), (4, .int w4), (5, .int w5), (6, .int w6)] → W p l e rm_Mo_next s m [.ref (ad 29), .int a1, .int a2].toArray below meth c H locs 0 0 (gQi D (xw ad ci cl) (xt ci cl) (xa ad) below [.ref (ad 29), .int a1, .int a2] s (post σ0 τ0 a1 a2)) (F0 m 93 ls []) := by
          intro w1 w2 w3 w4 w5 w6 σ1 τ1 H locs ls hv hP hD hS hl
          unfold s_Mo_next_93 at hv
          refine lv_iload_n hx hb d_Mo_next_93 rfl (lv_at hl 1 rfl) ?_
          refine lv_iload hx hb d_Mo_next_94 (lv_at hl 4 rfl) ?_
          refine lv_ishr hx hb d_Mo_next_96 ?_
          refine lv_iconst (v := 1) hx hb d_Mo_next_97 (by decide) ?_
          refine lv_iand hx hb d_Mo_next_98 ?_
          refine lv_iconst (v := 1) hx hb d_Mo_next_99 (by decide) ?_
          refine lv_icmp_ne (tgt := 134) hx hb d_Mo_next_100 (by decide) (fun hc => ?_) (fun hc => ?_)
          · replace hv := hv.1 hc
            refine lv_iload_n hx hb d_Mo_next_134 rfl (lv_at hl 3 rfl) ?_
            refine lv_istore_n (lv' := [(3, .int w3), (0, .ref (ad 29)), (1, .int w1), (2, .int w2), (4, .int w4), (5, .int w5), (6, .int w6)]) hx hb d_Mo_next_135 rfl hl (by decide) rfl (fun ls hl => ?_)
            obtain ⟨y136, ey136⟩ : ∃ z : Int32, z = w4 + 1 := ⟨_, rfl⟩
            replace hv := hv y136 ey136
            refine lv_iinc (v := y136) (lv' := [(4, .int y136), (3, .int w3), (0, .ref (ad 29)), (1, .int w1), (2, .int w2), (5, .int w5), (6, .int w6)]) hx hb d_Mo_next_136 hl (k := 4) rfl (by rw [ey136]; rfl) (by decide) rfl (fun ls hl => ?_)
            refine lv_goto (tgt := 5) hx hb d_Mo_next_139 (by decide) ?_
            obtain ⟨hI, hm⟩ := hv
            exact ih w1 w2 w3 y136 σ1 τ1 _ _ _ (Nat.lt_of_lt_of_le hm (Nat.le_of_lt_succ hn)) hI hP hD hS (lv_sub hl [2, 3, 4, 1, 0] rfl)
          · replace hv := hv.2 hc
            refine lv_iload hx hb d_Mo_next_103 (lv_at hl 6 rfl) ?_
            refine lv_if_eq (tgt := 134) hx hb d_Mo_next_105 (by decide) (fun hc => ?_) (fun hc => ?_)
            · replace hv := hv.1 hc
              refine lv_iload_n hx hb d_Mo_next_134 rfl (lv_at hl 3 rfl) ?_
              refine lv_istore_n (lv' := [(3, .int w3), (0, .ref (ad 29)), (1, .int w1), (2, .int w2), (4, .int w4), (5, .int w5), (6, .int w6)]) hx hb d_Mo_next_135 rfl hl (by decide) rfl (fun ls hl => ?_)
              obtain ⟨y136, ey136⟩ : ∃ z : Int32, z = w4 + 1 := ⟨_, rfl⟩
              replace hv := hv y136 ey136
              refine lv_iinc (v := y136) (lv' := [(4, .int y136), (3, .int w3), (0, .ref (ad 29)), (1, .int w1), (2, .int w2), (5, .int w5), (6, .int w6)]) hx hb d_Mo_next_136 hl (k := 4) rfl (by rw [ey136]; rfl) (by decide) rfl (fun ls hl => ?_)
              refine lv_goto (tgt := 5) hx hb d_Mo_next_139 (by decide) ?_
              obtain ⟨hI, hm⟩ := hv
              exact ih w1 w2 w3 y136 σ1 τ1 _ _ _ (Nat.lt_of_lt_of_le hm (Nat.le_of_lt_succ hn)) hI hP hD hS (lv_sub hl [2, 3, 4, 1, 0] rfl)
            · replace hv := hv.2 hc
              refine lv_iload_n hx hb d_Mo_next_108 rfl (lv_at hl 3 rfl) ?_
              refine lv_if_lt (tgt := 129) hx hb d_Mo_next_109 (by decide) (fun hc => ?_) (fun hc => ?_)
              · replace hv := hv.1 hc
                refine lv_iload hx hb d_Mo_next_129 (lv_at hl 4 rfl) ?_
                refine lv_goto (tgt := 135) hx hb d_Mo_next_131 (by decide) ?_
                refine lv_istore_n (lv' := [(3, .int w4), (0, .ref (ad 29)), (1, .int w1), (2, .int w2), (4, .int w4), (5, .int w5), (6, .int w6)]) hx hb d_Mo_next_135 rfl hl (by decide) rfl (fun ls hl => ?_)
                obtain ⟨y136, ey136⟩ : ∃ z : Int32, z = w4 + 1 := ⟨_, rfl⟩
                replace hv := hv y136 ey136
                refine lv_iinc (v := y136) (lv' := [(4, .int y136), (3, .int w4), (0, .ref (ad 29)), (1, .int w1), (2, .int w2), (5, .int w5), (6, .int w6)]) hx hb d_Mo_next_136 hl (k := 4) rfl (by rw [ey136]; rfl) (by decide) rfl (fun ls hl => ?_)
                refine lv_goto (tgt := 5) hx hb d_Mo_next_139 (by decide) ?_
                obtain ⟨hI, hm⟩ := hv
                exact ih w1 w2 w4 y136 σ1 τ1 _ _ _ (Nat.lt_of_lt_of_le hm (Nat.le_of_lt_succ hn)) hI hP hD hS (lv_sub hl [2, 3, 4, 1, 0] rfl)
              · replace hv := hv.2 hc
                refine lv_aload_n hx hb d_Mo_next_112 rfl (lv_at hl 0 rfl) ?_
                refine va_get (D := D) (ci := 7) (v := .ref (ad 39)) (C := R_Mo) (T := F_Mo) (N := 24) hx hb hts iw_Mo hown hK hP 29 rfl rfl 13 (by decide) (hts _ t_w273) (fun _ h9 => h9) rfl d_Mo_next_113 ?_
                refine lv_iload hx hb d_Mo_next_116 (lv_at hl 4 rfl) ?_
                obtain ⟨hi, hv⟩ := hv
                refine va_iald hx hb hK hP 39 0 rfl rfl hi d_Mo_next_118 ?_
                refine lv_aload_n hx hb d_Mo_next_119 rfl (lv_at hl 0 rfl) ?_
                refine va_get (D := D) (ci := 7) (v := .ref (ad 39)) (C := R_Mo) (T := F_Mo) (N := 24) hx hb hts iw_Mo hown hK hP 29 rfl rfl 13 (by decide) (hts _ t_w273) (fun _ h9 => h9) rfl d_Mo_next_120 ?_
                refine lv_iload hx hb d_Mo_next_123 (lv_at hl 5 rfl) ?_
                obtain ⟨hi, hv⟩ := hv
                refine va_iald hx hb hK hP 39 0 rfl rfl hi d_Mo_next_125 ?_
                refine lv_icmp_ge (tgt := 134) hx hb d_Mo_next_126 (by decide) (fun hc => ?_) (fun hc => ?_)
                · replace hv := hv.1 hc
                  refine lv_iload_n hx hb d_Mo_next_134 rfl (lv_at hl 3 rfl) ?_
                  refine lv_istore_n (lv' := [(3, .int w3), (0, .ref (ad 29)), (1, .int w1), (2, .int w2), (4, .int w4), (5, .int w5), (6, .int w6)]) hx hb d_Mo_next_135 rfl hl (by decide) rfl (fun ls hl => ?_)
                  obtain ⟨y136, ey136⟩ : ∃ z : Int32, z = w4 + 1 := ⟨_, rfl⟩
                  replace hv := hv y136 ey136
                  refine lv_iinc (v := y136) (lv' := [(4, .int y136), (3, .int w3), (0, .ref (ad 29)), (1, .int w1), (2, .int w2), (5, .int w5), (6, .int w6)]) hx hb d_Mo_next_136 hl (k := 4) rfl (by rw [ey136]; rfl) (by decide) rfl (fun ls hl => ?_)
                  refine lv_goto (tgt := 5) hx hb d_Mo_next_139 (by decide) ?_
                  obtain ⟨hI, hm⟩ := hv
                  exact ih w1 w2 w3 y136 σ1 τ1 _ _ _ (Nat.lt_of_lt_of_le hm (Nat.le_of_lt_succ hn)) hI hP hD hS (lv_sub hl [2, 3, 4, 1, 0] rfl)
                · replace hv := hv.2 hc
                  refine lv_iload hx hb d_Mo_next_129 (lv_at hl 4 rfl) ?_
                  refine lv_goto (tgt := 135) hx hb d_Mo_next_131 (by decide) ?_
                  refine lv_istore_n (lv' := [(3, .int w4), (0, .ref (ad 29)), (1, .int w1), (2, .int w2), (4, .int w4), (5, .int w5), (6, .int w6)]) hx hb d_Mo_next_135 rfl hl (by decide) rfl (fun ls hl => ?_)
                  obtain ⟨y136, ey136⟩ : ∃ z : Int32, z = w4 + 1 := ⟨_, rfl⟩
                  replace hv := hv y136 ey136
                  refine lv_iinc (v := y136) (lv' := [(4, .int y136), (3, .int w4), (0, .ref (ad 29)), (1, .int w1), (2, .int w2), (5, .int w5), (6, .int w6)]) hx hb d_Mo_next_136 hl (k := 4) rfl (by rw [ey136]; rfl) (by decide) rfl (fun ls hl => ?_)
                  refine lv_goto (tgt := 5) hx hb d_Mo_next_139 (by decide) ?_
                  obtain ⟨hI, hm⟩ := hv
                  exact ih w1 w2 w4 y136 σ1 τ1 _ _ _ (Nat.lt_of_lt_of_le hm (Nat.le_of_lt_succ hn)) hI hP hD hS (lv_sub hl [2, 3, 4, 1, 0] rfl)
        have j80 : ∀ (w1 : Int32) (w2 : Int32) (w3 : Int32) (w4 : Int32) (w5 : Int32) (σ1 : MI) (τ1 : ML) (H : Heap) (locs : List Loc) (ls : Array Slot), s_Mo_next_80 σ1 τ1 w1 w2 w3 w4 w5 (fun z0 z1 z2 z3 σ9 τ9 => I5 σ0 τ0 a1 a2 z0 z1 z2 z3 σ9 τ9 ∧ m5 σ0 τ0 a1 a2 z0 z1 z2 z3 σ9 τ9 < m5 σ0 τ0 a1 a2 x1 x2 x3 x4 σ τ) (post σ0 τ0 a1 a2) → va_P D classes ((xw ad ci cl) σ1 τ1) H → va_D (gA (xa ad) s.heap.size) ((xw ad ci cl) σ1 τ1) → va_S (gA (xa ad) s.heap.size) s.heap H locs → lv_has ls 7 [(0, .ref (ad 29)), (1, .int w1), (2, .int w2), (3, .int w3), (4, .int w4), (5, .int w5)] → W p l e rm_Mo_next s m [.ref (ad 29), .int a1, .int a2].toArray below meth c H locs 0 0 (gQi D (xw ad ci cl) (xt ci cl) (xa ad) below [.ref (ad 29), .int a1, .int a2] s (post σ0 τ0 a1 a2)) (F0 m 80 ls []) := by
          intro w1 w2 w3 w4 w5 σ1 τ1 H locs ls hv hP hD hS hl
          unfold s_Mo_next_80 at hv
          refine lv_iload hx hb d_Mo_next_80 (lv_at hl 4 rfl) ?_
          refine lv_iload_n hx hb d_Mo_next_82 rfl (lv_at hl 2 rfl) ?_
          refine lv_icmp_le (tgt := 90) hx hb d_Mo_next_83 (by decide) (fun hc => ?_) (fun hc => ?_)
          · replace hv := hv.1 hc
            refine lv_iconst (v := 0) hx hb d_Mo_next_90 (by decide) ?_
            refine lv_istore (lv' := [(6, .int 0), (0, .ref (ad 29)), (1, .int w1), (2, .int w2), (3, .int w3), (4, .int w4), (5, .int w5)]) hx hb d_Mo_next_91 hl (by decide) rfl (fun ls hl => ?_)
            exact j93 w1 w2 w3 w4 w5 0 σ1 τ1 _ _ _ hv hP hD hS (lv_sub hl [1, 2, 3, 4, 5, 6, 0] rfl)
          · replace hv := hv.2 hc
            refine lv_iconst (v := 1) hx hb d_Mo_next_86 (by decide) ?_
            refine lv_goto (tgt := 91) hx hb d_Mo_next_87 (by decide) ?_
            refine lv_istore (lv' := [(6, .int 1), (0, .ref (ad 29)), (1, .int w1), (2, .int w2), (3, .int w3), (4, .int w4), (5, .int w5)]) hx hb d_Mo_next_91 hl (by decide) rfl (fun ls hl => ?_)
            exact j93 w1 w2 w3 w4 w5 1 σ1 τ1 _ _ _ hv hP hD hS (lv_sub hl [1, 2, 3, 4, 5, 6, 0] rfl)
        have j55 : ∀ (w1 : Int32) (w2 : Int32) (w3 : Int32) (w4 : Int32) (w5 : Int32) (σ1 : MI) (τ1 : ML) (H : Heap) (locs : List Loc) (ls : Array Slot), s_Mo_next_55 σ1 τ1 w1 w2 w3 w4 w5 (fun z0 z1 z2 z3 σ9 τ9 => I5 σ0 τ0 a1 a2 z0 z1 z2 z3 σ9 τ9 ∧ m5 σ0 τ0 a1 a2 z0 z1 z2 z3 σ9 τ9 < m5 σ0 τ0 a1 a2 x1 x2 x3 x4 σ τ) (post σ0 τ0 a1 a2) → va_P D classes ((xw ad ci cl) σ1 τ1) H → va_D (gA (xa ad) s.heap.size) ((xw ad ci cl) σ1 τ1) → va_S (gA (xa ad) s.heap.size) s.heap H locs → lv_has ls 7 [(0, .ref (ad 29)), (1, .int w1), (2, .int w2), (3, .int w3), (4, .int w4), (5, .int w5)] → W p l e rm_Mo_next s m [.ref (ad 29), .int a1, .int a2].toArray below meth c H locs 0 0 (gQi D (xw ad ci cl) (xt ci cl) (xa ad) below [.ref (ad 29), .int a1, .int a2] s (post σ0 τ0 a1 a2)) (F0 m 55 ls []) := by
          intro w1 w2 w3 w4 w5 σ1 τ1 H locs ls hv hP hD hS hl
          unfold s_Mo_next_55 at hv
          refine lv_aload_n hx hb d_Mo_next_55 rfl (lv_at hl 0 rfl) ?_
          refine va_get (D := D) (ci := 7) (v := .ref (ad 39)) (C := R_Mo) (T := F_Mo) (N := 24) hx hb hts iw_Mo hown hK hP 29 rfl rfl 13 (by decide) (hts _ t_w273) (fun _ h9 => h9) rfl d_Mo_next_56 ?_
          refine lv_iload hx hb d_Mo_next_59 (lv_at hl 4 rfl) ?_
          obtain ⟨hi, hv⟩ := hv
          refine va_iald hx hb hK hP 39 0 rfl rfl hi d_Mo_next_61 ?_
          refine lv_aload_n hx hb d_Mo_next_62 rfl (lv_at hl 0 rfl) ?_
          refine va_get (D := D) (ci := 7) (v := .ref (ad 39)) (C := R_Mo) (T := F_Mo) (N := 24) hx hb hts iw_Mo hown hK hP 29 rfl rfl 13 (by decide) (hts _ t_w273) (fun _ h9 => h9) rfl d_Mo_next_63 ?_
          refine lv_iload_n hx hb d_Mo_next_66 rfl (lv_at hl 2 rfl) ?_
          refine lv_if_ge (tgt := 75) hx hb d_Mo_next_67 (by decide) (fun hc => ?_) (fun hc => ?_)
          · replace hv := hv.1 hc
            refine lv_iload_n hx hb d_Mo_next_75 rfl (lv_at hl 2 rfl) ?_
            obtain ⟨hi, hv⟩ := hv
            refine va_iald hx hb hK hP 39 0 rfl rfl hi d_Mo_next_76 ?_
            refine lv_icmp_ne (tgt := 90) hx hb d_Mo_next_77 (by decide) (fun hc => ?_) (fun hc => ?_)
            · replace hv := hv.1 hc
              refine lv_iconst (v := 0) hx hb d_Mo_next_90 (by decide) ?_
              refine lv_istore (lv' := [(6, .int 0), (0, .ref (ad 29)), (1, .int w1), (2, .int w2), (3, .int w3), (4, .int w4), (5, .int w5)]) hx hb d_Mo_next_91 hl (by decide) rfl (fun ls hl => ?_)
              exact j93 w1 w2 w3 w4 w5 0 σ1 τ1 _ _ _ hv hP hD hS (lv_sub hl [1, 2, 3, 4, 5, 6, 0] rfl)
            · replace hv := hv.2 hc
              exact j80 w1 w2 w3 w4 w5 σ1 τ1 _ _ _ hv hP hD hS (lv_sub hl [0, 1, 2, 3, 4, 5] rfl)
          · replace hv := hv.2 hc
            refine lv_iload hx hb d_Mo_next_70 (lv_at hl 4 rfl) ?_
            refine lv_goto (tgt := 76) hx hb d_Mo_next_72 (by decide) ?_
            obtain ⟨hi, hv⟩ := hv
            refine va_iald hx hb hK hP 39 0 rfl rfl hi d_Mo_next_76 ?_
            refine lv_icmp_ne (tgt := 90) hx hb d_Mo_next_77 (by decide) (fun hc => ?_) (fun hc => ?_)
            · replace hv := hv.1 hc
              refine lv_iconst (v := 0) hx hb d_Mo_next_90 (by decide) ?_
              refine lv_istore (lv' := [(6, .int 0), (0, .ref (ad 29)), (1, .int w1), (2, .int w2), (3, .int w3), (4, .int w4), (5, .int w5)]) hx hb d_Mo_next_91 hl (by decide) rfl (fun ls hl => ?_)
              exact j93 w1 w2 w3 w4 w5 0 σ1 τ1 _ _ _ hv hP hD hS (lv_sub hl [1, 2, 3, 4, 5, 6, 0] rfl)
            · replace hv := hv.2 hc
              exact j80 w1 w2 w3 w4 w5 σ1 τ1 _ _ _ hv hP hD hS (lv_sub hl [0, 1, 2, 3, 4, 5] rfl)
        have j26 : ∀ (w1 : Int32) (w2 : Int32) (w3 : Int32) (w4 : Int32) (w5 : Int32) (σ1 : MI) (τ1 : ML) (H : Heap) (locs : List Loc) (ls : Array Slot), s_Mo_next_26 σ1 τ1 w1 w2 w3 w4 w5 (fun z0 z1 z2 z3 σ9 τ9 => I5 σ0 τ0 a1 a2 z0 z1 z2 z3 σ9 τ9 ∧ m5 σ0 τ0 a1 a2 z0 z1 z2 z3 σ9 τ9 < m5 σ0 τ0 a1 a2 x1 x2 x3 x4 σ τ) (post σ0 τ0 a1 a2) → va_P D classes ((xw ad ci cl) σ1 τ1) H → va_D (gA (xa ad) s.heap.size) ((xw ad ci cl) σ1 τ1) → va_S (gA (xa ad) s.heap.size) s.heap H locs → lv_has ls 7 [(0, .ref (ad 29)), (1, .int w1), (2, .int w2), (3, .int w3), (4, .int w4), (5, .int w5)] → W p l e rm_Mo_next s m [.ref (ad 29), .int a1, .int a2].toArray below meth c H locs 0 0 (gQi D (xw ad ci cl) (xt ci cl) (xa ad) below [.ref (ad 29), .int a1, .int a2] s (post σ0 τ0 a1 a2)) (F0 m 26 ls []) := by
          intro w1 w2 w3 w4 w5 σ1 τ1 H locs ls hv hP hD hS hl
          unfold s_Mo_next_26 at hv
          refine lv_iload_n hx hb d_Mo_next_26 rfl (lv_at hl 2 rfl) ?_
          refine lv_if_lt (tgt := 86) hx hb d_Mo_next_27 (by decide) (fun hc => ?_) (fun hc => ?_)
          · replace hv := hv.1 hc
            refine lv_iconst (v := 1) hx hb d_Mo_next_86 (by decide) ?_
            refine lv_goto (tgt := 91) hx hb d_Mo_next_87 (by decide) ?_
            refine lv_istore (lv' := [(6, .int 1), (0, .ref (ad 29)), (1, .int w1), (2, .int w2), (3, .int w3), (4, .int w4), (5, .int w5)]) hx hb d_Mo_next_91 hl (by decide) rfl (fun ls hl => ?_)
            exact j93 w1 w2 w3 w4 w5 1 σ1 τ1 _ _ _ hv hP hD hS (lv_sub hl [1, 2, 3, 4, 5, 6, 0] rfl)
          · replace hv := hv.2 hc
            refine lv_aload_n hx hb d_Mo_next_30 rfl (lv_at hl 0 rfl) ?_
            refine va_get (D := D) (ci := 7) (v := .ref (ad 39)) (C := R_Mo) (T := F_Mo) (N := 24) hx hb hts iw_Mo hown hK hP 29 rfl rfl 13 (by decide) (hts _ t_w273) (fun _ h9 => h9) rfl d_Mo_next_31 ?_
            refine lv_iload hx hb d_Mo_next_34 (lv_at hl 4 rfl) ?_
            obtain ⟨hi, hv⟩ := hv
            refine va_iald hx hb hK hP 39 0 rfl rfl hi d_Mo_next_36 ?_
            refine lv_aload_n hx hb d_Mo_next_37 rfl (lv_at hl 0 rfl) ?_
            refine va_get (D := D) (ci := 7) (v := .ref (ad 39)) (C := R_Mo) (T := F_Mo) (N := 24) hx hb hts iw_Mo hown hK hP 29 rfl rfl 13 (by decide) (hts _ t_w273) (fun _ h9 => h9) rfl d_Mo_next_38 ?_
            refine lv_iload_n hx hb d_Mo_next_41 rfl (lv_at hl 2 rfl) ?_
            refine lv_if_ge (tgt := 50) hx hb d_Mo_next_42 (by decide) (fun hc => ?_) (fun hc => ?_)
            · replace hv := hv.1 hc
              refine lv_iload_n hx hb d_Mo_next_50 rfl (lv_at hl 2 rfl) ?_
              obtain ⟨hi, hv⟩ := hv
              refine va_iald hx hb hK hP 39 0 rfl rfl hi d_Mo_next_51 ?_
              refine lv_icmp_gt (tgt := 86) hx hb d_Mo_next_52 (by decide) (fun hc => ?_) (fun hc => ?_)
              · replace hv := hv.1 hc
                refine lv_iconst (v := 1) hx hb d_Mo_next_86 (by decide) ?_
                refine lv_goto (tgt := 91) hx hb d_Mo_next_87 (by decide) ?_
                refine lv_istore (lv' := [(6, .int 1), (0, .ref (ad 29)), (1, .int w1), (2, .int w2), (3, .int w3), (4, .int w4), (5, .int w5)]) hx hb d_Mo_next_91 hl (by decide) rfl (fun ls hl => ?_)
                exact j93 w1 w2 w3 w4 w5 1 σ1 τ1 _ _ _ hv hP hD hS (lv_sub hl [1, 2, 3, 4, 5, 6, 0] rfl)
              · replace hv := hv.2 hc
                exact j55 w1 w2 w3 w4 w5 σ1 τ1 _ _ _ hv hP hD hS (lv_sub hl [0, 1, 2, 3, 4, 5] rfl)
            · replace hv := hv.2 hc
              refine lv_iload hx hb d_Mo_next_45 (lv_at hl 4 rfl) ?_
              refine lv_goto (tgt := 51) hx hb d_Mo_next_47 (by decide) ?_
              obtain ⟨hi, hv⟩ := hv
              refine va_iald hx hb hK hP 39 0 rfl rfl hi d_Mo_next_51 ?_
              refine lv_icmp_gt (tgt := 86) hx hb d_Mo_next_52 (by decide) (fun hc => ?_) (fun hc => ?_)
              · replace hv := hv.1 hc
                refine lv_iconst (v := 1) hx hb d_Mo_next_86 (by decide) ?_
                refine lv_goto (tgt := 91) hx hb d_Mo_next_87 (by decide) ?_
                refine lv_istore (lv' := [(6, .int 1), (0, .ref (ad 29)), (1, .int w1), (2, .int w2), (3, .int w3), (4, .int w4), (5, .int w5)]) hx hb d_Mo_next_91 hl (by decide) rfl (fun ls hl => ?_)
                exact j93 w1 w2 w3 w4 w5 1 σ1 τ1 _ _ _ hv hP hD hS (lv_sub hl [1, 2, 3, 4, 5, 6, 0] rfl)
              · replace hv := hv.2 hc
                exact j55 w1 w2 w3 w4 w5 σ1 τ1 _ _ _ hv hP hD hS (lv_sub hl [0, 1, 2, 3, 4, 5] rfl)
        refine lv_iload hx hb d_Mo_next_5 (lv_at hl 4 rfl) ?_
        refine lv_aload_n hx hb d_Mo_next_7 rfl (lv_at hl 0 rfl) ?_
        refine va_get (D := D) (ci := 7) (v := .int (σ 29 10)) (C := R_Mo) (T := F_Mo) (N := 24) hx hb hts iw_Mo hown hK hP 29 rfl rfl 10 (by decide) (hts _ t_w249) (fun _ h9 => h9) rfl d_Mo_next_8 ?_
        refine lv_icmp_ge (tgt := 142) hx hb d_Mo_next_11 (by decide) (fun hc => ?_) (fun hc => ?_)
        · replace hv := hv.1 hc
          refine lv_iload_n hx hb d_Mo_next_142 rfl (lv_at hl 3 rfl) ?_
          exact gk_iret hx hb hr hlocks hK hP hD hS hv d_Mo_next_143
        · replace hv := hv.2 hc
          refine lv_iload_n hx hb d_Mo_next_14 rfl (lv_at hl 3 rfl) ?_
          refine lv_if_ge (tgt := 23) hx hb d_Mo_next_15 (by decide) (fun hc => ?_) (fun hc => ?_)
          · replace hv := hv.1 hc
            refine lv_iload_n hx hb d_Mo_next_23 rfl (lv_at hl 3 rfl) ?_
            refine lv_istore (lv' := [(5, .int x3), (0, .ref (ad 29)), (1, .int x1), (2, .int x2), (3, .int x3), (4, .int x4)]) hx hb d_Mo_next_24 hl (by decide) rfl (fun ls hl => ?_)
            exact j26 x1 x2 x3 x4 x3 σ τ _ _ _ hv hP hD hS (lv_sub hl [1, 2, 3, 4, 5, 0] rfl)
          · replace hv := hv.2 hc
            refine lv_iload hx hb d_Mo_next_18 (lv_at hl 4 rfl) ?_
            refine lv_goto (tgt := 24) hx hb d_Mo_next_20 (by decide) ?_
            refine lv_istore (lv' := [(5, .int x4), (0, .ref (ad 29)), (1, .int x1), (2, .int x2), (3, .int x3), (4, .int x4)]) hx hb d_Mo_next_24 hl (by decide) rfl (fun ls hl => ?_)
            exact j26 x1 x2 x3 x4 x4 σ τ _ _ _ hv hP hD hS (lv_sub hl [1, 2, 3, 4, 5, 0] rfl)
  have hv := v0 σ0 τ0 a1 a2 hpre
  unfold s_Mo_next_0 at hv
  refine lv_iconst (v := (-1)) hx hb d_Mo_next_0 (by decide) ?_
  refine lv_topi (fun y1 ey1 => ?_)
  replace hv := hv y1 ey1
  refine lv_istore_n (lv' := [(3, .int y1), (0, .ref (ad 29)), (1, .int a1), (2, .int a2)]) hx hb d_Mo_next_1 rfl hl (by decide) rfl (fun ls hl => ?_)
  refine lv_iconst (v := 0) hx hb d_Mo_next_2 (by decide) ?_
  refine lv_istore (lv' := [(4, .int 0), (3, .int y1), (0, .ref (ad 29)), (1, .int a1), (2, .int a2)]) hx hb d_Mo_next_3 hl (by decide) rfl (fun ls hl => ?_)
  exact (hL _) a1 a2 y1 0 σ0 τ0 _ _ _ (Nat.lt_succ_self _) hv hP hD hS (lv_sub hl [2, 3, 4, 1, 0] rfl)
theorem d_Mo_cost_0 : decode b_Mo_cost 0 = .ok (.iconst 0, 1) := by decide +kernel
theorem d_Mo_cost_1 : decode b_Mo_cost 1 = .ok (.istore_n 3, 1) := by decide +kernel
theorem d_Mo_cost_2 : decode b_Mo_cost 2 = .ok (.iconst 0, 1) := by decide +kernel
theorem d_Mo_cost_3 : decode b_Mo_cost 3 = .ok (.istore 4, 2) := by decide +kernel
theorem d_Mo_cost_5 : decode b_Mo_cost 5 = .ok (.aload_n 0, 1) := by decide +kernel
theorem d_Mo_cost_6 : decode b_Mo_cost 6 = .ok (.getfield 13, 3) := by decide +kernel
theorem d_Mo_cost_9 : decode b_Mo_cost 9 = .ok (.iload_n 1, 1) := by decide +kernel
theorem d_Mo_cost_10 : decode b_Mo_cost 10 = .ok (.iaload, 1) := by decide +kernel
theorem d_Mo_cost_11 : decode b_Mo_cost 11 = .ok (.istore 5, 2) := by decide +kernel
theorem d_Mo_cost_13 : decode b_Mo_cost 13 = .ok (.aload_n 0, 1) := by decide +kernel
theorem d_Mo_cost_14 : decode b_Mo_cost 14 = .ok (.getfield 19, 3) := by decide +kernel
theorem d_Mo_cost_17 : decode b_Mo_cost 17 = .ok (.iload_n 1, 1) := by decide +kernel
theorem d_Mo_cost_18 : decode b_Mo_cost 18 = .ok (.iaload, 1) := by decide +kernel
theorem d_Mo_cost_19 : decode b_Mo_cost 19 = .ok (.istore 6, 2) := by decide +kernel
theorem d_Mo_cost_21 : decode b_Mo_cost 21 = .ok (.iconst (-1), 1) := by decide +kernel
theorem d_Mo_cost_22 : decode b_Mo_cost 22 = .ok (.istore 7, 2) := by decide +kernel
theorem d_Mo_cost_24 : decode b_Mo_cost 24 = .ok (.aload_n 0, 1) := by decide +kernel
theorem d_Mo_cost_25 : decode b_Mo_cost 25 = .ok (.iload_n 2, 1) := by decide +kernel
theorem d_Mo_cost_26 : decode b_Mo_cost 26 = .ok (.iconst (-1), 1) := by decide +kernel
theorem d_Mo_cost_27 : decode b_Mo_cost 27 = .ok (.invokevirtual 100, 3) := by decide +kernel
theorem d_Mo_cost_30 : decode b_Mo_cost 30 = .ok (.istore 8, 2) := by decide +kernel
theorem d_Mo_cost_32 : decode b_Mo_cost 32 = .ok (.iload 8, 2) := by decide +kernel
theorem d_Mo_cost_34 : decode b_Mo_cost 34 = .ok (.ifCond .lt 186, 3) := by decide +kernel
theorem d_Mo_cost_37 : decode b_Mo_cost 37 = .ok (.aload_n 0, 1) := by decide +kernel
theorem d_Mo_cost_38 : decode b_Mo_cost 38 = .ok (.getfield 46, 3) := by decide +kernel
theorem d_Mo_cost_41 : decode b_Mo_cost 41 = .ok (.iconst 5, 1) := by decide +kernel
theorem d_Mo_cost_42 : decode b_Mo_cost 42 = .ok (.iload 6, 2) := by decide +kernel
theorem d_Mo_cost_44 : decode b_Mo_cost 44 = .ok (.imul, 1) := by decide +kernel
theorem d_Mo_cost_45 : decode b_Mo_cost 45 = .ok (.aload_n 0, 1) := by decide +kernel
theorem d_Mo_cost_46 : decode b_Mo_cost 46 = .ok (.getfield 43, 3) := by decide +kernel
theorem d_Mo_cost_49 : decode b_Mo_cost 49 = .ok (.iload 8, 2) := by decide +kernel
theorem d_Mo_cost_51 : decode b_Mo_cost 51 = .ok (.iaload, 1) := by decide +kernel
theorem d_Mo_cost_52 : decode b_Mo_cost 52 = .ok (.iadd, 1) := by decide +kernel
theorem d_Mo_cost_53 : decode b_Mo_cost 53 = .ok (.iaload, 1) := by decide +kernel
theorem d_Mo_cost_54 : decode b_Mo_cost 54 = .ok (.istore 9, 2) := by decide +kernel
theorem d_Mo_cost_56 : decode b_Mo_cost 56 = .ok (.aload_n 0, 1) := by decide +kernel
theorem d_Mo_cost_57 : decode b_Mo_cost 57 = .ok (.getfield 31, 3) := by decide +kernel
theorem d_Mo_cost_60 : decode b_Mo_cost 60 = .ok (.iload 8, 2) := by decide +kernel
theorem d_Mo_cost_62 : decode b_Mo_cost 62 = .ok (.iaload, 1) := by decide +kernel
theorem d_Mo_cost_63 : decode b_Mo_cost 63 = .ok (.aload_n 0, 1) := by decide +kernel
theorem d_Mo_cost_64 : decode b_Mo_cost 64 = .ok (.getfield 7, 3) := by decide +kernel
theorem d_Mo_cost_67 : decode b_Mo_cost 67 = .ok (.iload_n 1, 1) := by decide +kernel
theorem d_Mo_cost_68 : decode b_Mo_cost 68 = .ok (.iaload, 1) := by decide +kernel
theorem d_Mo_cost_69 : decode b_Mo_cost 69 = .ok (.if_icmp .gt 93, 3) := by decide +kernel
theorem d_Mo_cost_72 : decode b_Mo_cost 72 = .ok (.aload_n 0, 1) := by decide +kernel
theorem d_Mo_cost_73 : decode b_Mo_cost 73 = .ok (.getfield 37, 3) := by decide +kernel
theorem d_Mo_cost_76 : decode b_Mo_cost 76 = .ok (.iload 8, 2) := by decide +kernel
theorem d_Mo_cost_78 : decode b_Mo_cost 78 = .ok (.iaload, 1) := by decide +kernel
theorem d_Mo_cost_79 : decode b_Mo_cost 79 = .ok (.iload 5, 2) := by decide +kernel
theorem d_Mo_cost_81 : decode b_Mo_cost 81 = .ok (.iload 9, 2) := by decide +kernel
theorem d_Mo_cost_83 : decode b_Mo_cost 83 = .ok (.iadd, 1) := by decide +kernel
theorem d_Mo_cost_84 : decode b_Mo_cost 84 = .ok (.if_icmp .lt 78, 3) := by decide +kernel
theorem d_Mo_cost_87 : decode b_Mo_cost 87 = .ok (.aload_n 0, 1) := by decide +kernel
theorem d_Mo_cost_88 : decode b_Mo_cost 88 = .ok (.getfield 40, 3) := by decide +kernel
theorem d_Mo_cost_91 : decode b_Mo_cost 91 = .ok (.iload 8, 2) := by decide +kernel
theorem d_Mo_cost_93 : decode b_Mo_cost 93 = .ok (.iaload, 1) := by decide +kernel
theorem d_Mo_cost_94 : decode b_Mo_cost 94 = .ok (.aload_n 0, 1) := by decide +kernel
theorem d_Mo_cost_95 : decode b_Mo_cost 95 = .ok (.getfield 16, 3) := by decide +kernel
theorem d_Mo_cost_98 : decode b_Mo_cost 98 = .ok (.iload_n 1, 1) := by decide +kernel
theorem d_Mo_cost_99 : decode b_Mo_cost 99 = .ok (.iaload, 1) := by decide +kernel
theorem d_Mo_cost_100 : decode b_Mo_cost 100 = .ok (.if_icmp .gt 62, 3) := by decide +kernel
theorem d_Mo_cost_103 : decode b_Mo_cost 103 = .ok (.aload_n 0, 1) := by decide +kernel
theorem d_Mo_cost_104 : decode b_Mo_cost 104 = .ok (.getfield 22, 3) := by decide +kernel
theorem d_Mo_cost_107 : decode b_Mo_cost 107 = .ok (.iload_n 1, 1) := by decide +kernel
theorem d_Mo_cost_108 : decode b_Mo_cost 108 = .ok (.iaload, 1) := by decide +kernel
theorem d_Mo_cost_109 : decode b_Mo_cost 109 = .ok (.iconst 1, 1) := by decide +kernel
theorem d_Mo_cost_110 : decode b_Mo_cost 110 = .ok (.if_icmp .ne 16, 3) := by decide +kernel
theorem d_Mo_cost_113 : decode b_Mo_cost 113 = .ok (.aload_n 0, 1) := by decide +kernel
theorem d_Mo_cost_114 : decode b_Mo_cost 114 = .ok (.getfield 37, 3) := by decide +kernel
theorem d_Mo_cost_117 : decode b_Mo_cost 117 = .ok (.iload 8, 2) := by decide +kernel
theorem d_Mo_cost_119 : decode b_Mo_cost 119 = .ok (.iaload, 1) := by decide +kernel
theorem d_Mo_cost_120 : decode b_Mo_cost 120 = .ok (.sipush 360, 3) := by decide +kernel
theorem d_Mo_cost_123 : decode b_Mo_cost 123 = .ok (.if_icmp .lt 39, 3) := by decide +kernel
theorem d_Mo_cost_126 : decode b_Mo_cost 126 = .ok (.iload 7, 2) := by decide +kernel
theorem d_Mo_cost_128 : decode b_Mo_cost 128 = .ok (.ifCond .lt 30, 3) := by decide +kernel
theorem d_Mo_cost_131 : decode b_Mo_cost 131 = .ok (.aload_n 0, 1) := by decide +kernel
theorem d_Mo_cost_132 : decode b_Mo_cost 132 = .ok (.getfield 37, 3) := by decide +kernel
theorem d_Mo_cost_135 : decode b_Mo_cost 135 = .ok (.iload 8, 2) := by decide +kernel
theorem d_Mo_cost_137 : decode b_Mo_cost 137 = .ok (.iaload, 1) := by decide +kernel
theorem d_Mo_cost_138 : decode b_Mo_cost 138 = .ok (.aload_n 0, 1) := by decide +kernel
theorem d_Mo_cost_139 : decode b_Mo_cost 139 = .ok (.getfield 37, 3) := by decide +kernel
theorem d_Mo_cost_142 : decode b_Mo_cost 142 = .ok (.iload 7, 2) := by decide +kernel
theorem d_Mo_cost_144 : decode b_Mo_cost 144 = .ok (.ifCond .ge 8, 3) := by decide +kernel
theorem d_Mo_cost_147 : decode b_Mo_cost 147 = .ok (.iload 8, 2) := by decide +kernel
theorem d_Mo_cost_149 : decode b_Mo_cost 149 = .ok (.goto 5, 3) := by decide +kernel
theorem d_Mo_cost_152 : decode b_Mo_cost 152 = .ok (.iload 7, 2) := by decide +kernel
theorem d_Mo_cost_154 : decode b_Mo_cost 154 = .ok (.iaload, 1) := by decide +kernel
theorem d_Mo_cost_155 : decode b_Mo_cost 155 = .ok (.if_icmp .le 7, 3) := by decide +kernel
theorem d_Mo_cost_158 : decode b_Mo_cost 158 = .ok (.iconst 1, 1) := by decide +kernel
theorem d_Mo_cost_159 : decode b_Mo_cost 159 = .ok (.goto 4, 3) := by decide +kernel
theorem d_Mo_cost_162 : decode b_Mo_cost 162 = .ok (.iconst 0, 1) := by decide +kernel
theorem d_Mo_cost_163 : decode b_Mo_cost 163 = .ok (.istore 10, 2) := by decide +kernel
theorem d_Mo_cost_165 : decode b_Mo_cost 165 = .ok (.iload 10, 2) := by decide +kernel
theorem d_Mo_cost_167 : decode b_Mo_cost 167 = .ok (.ifCond .ne 6, 3) := by decide +kernel
theorem d_Mo_cost_170 : decode b_Mo_cost 170 = .ok (.ldc 104, 2) := by decide +kernel
theorem d_Mo_cost_172 : decode b_Mo_cost 172 = .ok (.ireturn, 1) := by decide +kernel
theorem d_Mo_cost_173 : decode b_Mo_cost 173 = .ok (.iload_n 3, 1) := by decide +kernel
theorem d_Mo_cost_174 : decode b_Mo_cost 174 = .ok (.iload 9, 2) := by decide +kernel
theorem d_Mo_cost_176 : decode b_Mo_cost 176 = .ok (.iadd, 1) := by decide +kernel
theorem d_Mo_cost_177 : decode b_Mo_cost 177 = .ok (.istore_n 3, 1) := by decide +kernel
theorem d_Mo_cost_178 : decode b_Mo_cost 178 = .ok (.iinc 4 1, 3) := by decide +kernel
theorem d_Mo_cost_181 : decode b_Mo_cost 181 = .ok (.aload_n 0, 1) := by decide +kernel
theorem d_Mo_cost_182 : decode b_Mo_cost 182 = .ok (.getfield 40, 3) := by decide +kernel
theorem d_Mo_cost_185 : decode b_Mo_cost 185 = .ok (.iload 8, 2) := by decide +kernel
theorem d_Mo_cost_187 : decode b_Mo_cost 187 = .ok (.iaload, 1) := by decide +kernel
theorem d_Mo_cost_188 : decode b_Mo_cost 188 = .ok (.aload_n 0, 1) := by decide +kernel
theorem d_Mo_cost_189 : decode b_Mo_cost 189 = .ok (.getfield 94, 3) := by decide +kernel
theorem d_Mo_cost_192 : decode b_Mo_cost 192 = .ok (.iadd, 1) := by decide +kernel
theorem d_Mo_cost_193 : decode b_Mo_cost 193 = .ok (.istore 5, 2) := by decide +kernel
theorem d_Mo_cost_195 : decode b_Mo_cost 195 = .ok (.aload_n 0, 1) := by decide +kernel
theorem d_Mo_cost_196 : decode b_Mo_cost 196 = .ok (.getfield 43, 3) := by decide +kernel
theorem d_Mo_cost_199 : decode b_Mo_cost 199 = .ok (.iload 8, 2) := by decide +kernel
theorem d_Mo_cost_201 : decode b_Mo_cost 201 = .ok (.iaload, 1) := by decide +kernel
theorem d_Mo_cost_202 : decode b_Mo_cost 202 = .ok (.istore 6, 2) := by decide +kernel
theorem d_Mo_cost_204 : decode b_Mo_cost 204 = .ok (.iload 8, 2) := by decide +kernel
theorem d_Mo_cost_206 : decode b_Mo_cost 206 = .ok (.istore 7, 2) := by decide +kernel
theorem d_Mo_cost_208 : decode b_Mo_cost 208 = .ok (.aload_n 0, 1) := by decide +kernel
theorem d_Mo_cost_209 : decode b_Mo_cost 209 = .ok (.iload_n 2, 1) := by decide +kernel
theorem d_Mo_cost_210 : decode b_Mo_cost 210 = .ok (.iload 8, 2) := by decide +kernel
theorem d_Mo_cost_212 : decode b_Mo_cost 212 = .ok (.invokevirtual 100, 3) := by decide +kernel
theorem d_Mo_cost_215 : decode b_Mo_cost 215 = .ok (.istore 8, 2) := by decide +kernel
theorem d_Mo_cost_217 : decode b_Mo_cost 217 = .ok (.goto (-185), 3) := by decide +kernel
theorem d_Mo_cost_220 : decode b_Mo_cost 220 = .ok (.aload_n 0, 1) := by decide +kernel
theorem d_Mo_cost_221 : decode b_Mo_cost 221 = .ok (.getfield 22, 3) := by decide +kernel
theorem d_Mo_cost_224 : decode b_Mo_cost 224 = .ok (.iload_n 1, 1) := by decide +kernel
theorem d_Mo_cost_225 : decode b_Mo_cost 225 = .ok (.iaload, 1) := by decide +kernel
theorem d_Mo_cost_226 : decode b_Mo_cost 226 = .ok (.iconst 2, 1) := by decide +kernel
theorem d_Mo_cost_227 : decode b_Mo_cost 227 = .ok (.if_icmp .ne 14, 3) := by decide +kernel
theorem d_Mo_cost_230 : decode b_Mo_cost 230 = .ok (.iload 4, 2) := by decide +kernel
theorem d_Mo_cost_232 : decode b_Mo_cost 232 = .ok (.iconst 2, 1) := by decide +kernel
theorem d_Mo_cost_233 : decode b_Mo_cost 233 = .ok (.if_icmp .le 8, 3) := by decide +kernel
theorem d_Mo_cost_236 : decode b_Mo_cost 236 = .ok (.ldc 104, 2) := by decide +kernel
theorem d_Mo_cost_238 : decode b_Mo_cost 238 = .ok (.goto 4, 3) := by decide +kernel
theorem d_Mo_cost_241 : decode b_Mo_cost 241 = .ok (.iload_n 3, 1) := by decide +kernel
theorem d_Mo_cost_242 : decode b_Mo_cost 242 = .ok (.ireturn, 1) := by decide +kernel
def s_Mo_cost_165 (P_Mo_next : MI → ML → Int32 → Int32 → Prop) (Q_Mo_next : MI → ML → Int32 → Int32 → Int32 → MI → ML → Prop) (σ : MI) (τ : ML) (x1 : Int32) (x2 : Int32) (x3 : Int32) (x4 : Int32) (x8 : Int32) (x9 : Int32) (x10 : Int32) (K32 : Int32 → Int32 → Int32 → Int32 → Int32 → Int32 → Int32 → Int32 → MI → ML → Prop) (R : Int32 → MI → ML → Prop) : Prop :=
  (¬ x10 = 0 →
  (∀ y177 : Int32, y177 = x3 + x9 → (∀ y178 : Int32, y178 = x4 + 1 → (vp_in x8 7 ∧ (∀ y193 : Int32, y193 = (σ 40 (Int32.toNatClampNeg x8)) + (σ 29 17) → (vp_in x8 7 ∧ (∀ y202 : Int32, y202 = σ 41 (Int32.toNatClampNeg x8) → (P_Mo_next σ τ x2 x8 ∧ ∀ (r212 : Int32) (s212 : MI) (t212 : ML), Q_Mo_next σ τ x2 x8 r212 s212 t212 → (K32 x1 x2 y177 y178 y193 y202 x8 r212 s212 t212))))))))) ∧
  (x10 = 0 →
  (R 1000000000 σ τ))
def s_Mo_cost_126 (P_Mo_next : MI → ML → Int32 → Int32 → Prop) (Q_Mo_next : MI → ML → Int32 → Int32 → Int32 → MI → ML → Prop) (σ : MI) (τ : ML) (x1 : Int32) (x2 : Int32) (x3 : Int32) (x4 : Int32) (x7 : Int32) (x8 : Int32) (x9 : Int32) (K32 : Int32 → Int32 → Int32 → Int32 → Int32 → Int32 → Int32 → Int32 → MI → ML → Prop) (R : Int32 → MI → ML → Prop) : Prop :=
  (x7 < 0 →
  (s_Mo_cost_165 P_Mo_next Q_Mo_next σ τ x1 x2 x3 x4 x8 x9 1 K32 R)) ∧
  (¬ x7 < 0 →
  (vp_in x8 7 ∧ ((0 ≤ x7 →
    (vp_in x7 7 ∧ (((σ 39 (Int32.toNatClampNeg x8)) ≤ (σ 39 (Int32.toNatClampNeg x7)) →
      (s_Mo_cost_165 P_Mo_next Q_Mo_next σ τ x1 x2 x3 x4 x8 x9 0 K32 R)) ∧
      (¬ (σ 39 (Int32.toNatClampNeg x8)) ≤ (σ 39 (Int32.toNatClampNeg x7)) →
      (s_Mo_cost_165 P_Mo_next Q_Mo_next σ τ x1 x2 x3 x4 x8 x9 1 K32 R))))) ∧
    (¬ 0 ≤ x7 →
    (vp_in x8 7 ∧ (((σ 39 (Int32.toNatClampNeg x8)) ≤ (σ 39 (Int32.toNatClampNeg x8)) →
      (s_Mo_cost_165 P_Mo_next Q_Mo_next σ τ x1 x2 x3 x4 x8 x9 0 K32 R)) ∧
      (¬ (σ 39 (Int32.toNatClampNeg x8)) ≤ (σ 39 (Int32.toNatClampNeg x8)) →
      (s_Mo_cost_165 P_Mo_next Q_Mo_next σ τ x1 x2 x3 x4 x8 x9 1 K32 R))))))))
def s_Mo_cost_0 (P_Mo_next : MI → ML → Int32 → Int32 → Prop) (Q_Mo_next : MI → ML → Int32 → Int32 → Int32 → MI → ML → Prop) (σ : MI) (τ : ML) (a1 : Int32) (a2 : Int32) (K32 : Int32 → Int32 → Int32 → Int32 → Int32 → Int32 → Int32 → Int32 → MI → ML → Prop) (R : Int32 → MI → ML → Prop) : Prop :=
  vp_in a1 4 ∧ (∀ y11 : Int32, y11 = σ 31 (Int32.toNatClampNeg a1) → (vp_in a1 4 ∧ (∀ y19 : Int32, y19 = σ 33 (Int32.toNatClampNeg a1) → (∀ y22 : Int32, y22 = (-1) → (P_Mo_next σ τ a2 ((-1)) ∧ ∀ (r27 : Int32) (s27 : MI) (t27 : ML), Q_Mo_next σ τ a2 ((-1)) r27 s27 t27 → (K32 a1 a2 0 0 y11 y19 y22 r27 s27 t27))))))
def s_Mo_cost_32 (P_Mo_next : MI → ML → Int32 → Int32 → Prop) (Q_Mo_next : MI → ML → Int32 → Int32 → Int32 → MI → ML → Prop) (σ : MI) (τ : ML) (x1 : Int32) (x2 : Int32) (x3 : Int32) (x4 : Int32) (x5 : Int32) (x6 : Int32) (x7 : Int32) (x8 : Int32) (K32 : Int32 → Int32 → Int32 → Int32 → Int32 → Int32 → Int32 → Int32 → MI → ML → Prop) (R : Int32 → MI → ML → Prop) : Prop :=
  (x8 < 0 →
  (vp_in x1 4 ∧ ((¬ (σ 34 (Int32.toNatClampNeg x1)) = 2 →
    (R x3 σ τ)) ∧
    ((σ 34 (Int32.toNatClampNeg x1)) = 2 →
    ((x4 ≤ 2 →
      (R x3 σ τ)) ∧
      (¬ x4 ≤ 2 →
      (R 1000000000 σ τ))))))) ∧
  (¬ x8 < 0 →
  (vp_in x8 7 ∧ (vp_in ((5 * x6) + (σ 41 (Int32.toNatClampNeg x8))) 25 ∧ (∀ y54 : Int32, y54 = σ 42 (Int32.toNatClampNeg ((5 * x6) + (σ 41 (Int32.toNatClampNeg x8)))) → (vp_in x8 7 ∧ (vp_in x1 4 ∧ (((σ 30 (Int32.toNatClampNeg x1)) < (σ 37 (Int32.toNatClampNeg x8)) →
    (s_Mo_cost_165 P_Mo_next Q_Mo_next σ τ x1 x2 x3 x4 x8 y54 0 K32 R)) ∧
    (¬ (σ 30 (Int32.toNatClampNeg x1)) < (σ 37 (Int32.toNatClampNeg x8)) →
    (vp_in x8 7 ∧ (((σ 39 (Int32.toNatClampNeg x8)) < (x5 + y54) →
      (s_Mo_cost_165 P_Mo_next Q_Mo_next σ τ x1 x2 x3 x4 x8 y54 0 K32 R)) ∧
      (¬ (σ 39 (Int32.toNatClampNeg x8)) < (x5 + y54) →
      (vp_in x8 7 ∧ (vp_in x1 4 ∧ (((σ 32 (Int32.toNatClampNeg x1)) < (σ 40 (Int32.toNatClampNeg x8)) →
        (s_Mo_cost_165 P_Mo_next Q_Mo_next σ τ x1 x2 x3 x4 x8 y54 0 K32 R)) ∧
        (¬ (σ 32 (Int32.toNatClampNeg x1)) < (σ 40 (Int32.toNatClampNeg x8)) →
        (vp_in x1 4 ∧ ((¬ (σ 34 (Int32.toNatClampNeg x1)) = 1 →
          (s_Mo_cost_126 P_Mo_next Q_Mo_next σ τ x1 x2 x3 x4 x7 x8 y54 K32 R)) ∧
          ((σ 34 (Int32.toNatClampNeg x1)) = 1 →
          (vp_in x8 7 ∧ (((σ 39 (Int32.toNatClampNeg x8)) < 360 →
            (s_Mo_cost_165 P_Mo_next Q_Mo_next σ τ x1 x2 x3 x4 x8 y54 0 K32 R)) ∧
            (¬ (σ 39 (Int32.toNatClampNeg x8)) < 360 →
            (s_Mo_cost_126 P_Mo_next Q_Mo_next σ τ x1 x2 x3 x4 x7 x8 y54 K32 R))))))))))))))))))))))
set_option maxHeartbeats 4000000 in
set_option maxRecDepth 100000 in
theorem k_Mo_cost (l : Launch) (D : va_G) (ad : Nat → Nat) (ci cl : ClassId)
    (pre : MI → ML → Int32 → Int32 → Prop) (post : MI → ML → Int32 → Int32 → Int32 → MI → ML → Prop) (P_Mo_next : MI → ML → Int32 → Int32 → Prop) (Q_Mo_next : MI → ML → Int32 → Int32 → Int32 → MI → ML → Prop)
    (h_Mo_next : ∀ (sz : Nat) (σ : MI) (τ : ML) (b0 : Int32) (b1 : Int32), P_Mo_next σ τ b0 b1 → gMi l D (xw ad ci cl) (xt ci cl) (xa ad) y_Mo_next w_Mo_next rm_Mo_next [.ref (ad 29), .int b0, .int b1] sz σ τ (Q_Mo_next σ τ b0 b1))
    (I32 : MI → ML → Int32 → Int32 → Int32 → Int32 → Int32 → Int32 → Int32 → Int32 → Int32 → Int32 → MI → ML → Prop) (m32 : MI → ML → Int32 → Int32 → Int32 → Int32 → Int32 → Int32 → Int32 → Int32 → Int32 → Int32 → MI → ML → Nat)
    (v0 : ∀ (σ0 : MI) (τ0 : ML) (a1 : Int32) (a2 : Int32), pre σ0 τ0 a1 a2 → s_Mo_cost_0 P_Mo_next Q_Mo_next σ0 τ0 a1 a2 (fun z0 z1 z2 z3 z4 z5 z6 z7 σ9 τ9 => I32 σ0 τ0 a1 a2 z0 z1 z2 z3 z4 z5 z6 z7 σ9 τ9) (post σ0 τ0 a1 a2))
    (v32 : ∀ (σ0 : MI) (τ0 : ML) (a1 : Int32) (a2 : Int32) (x1 : Int32) (x2 : Int32) (x3 : Int32) (x4 : Int32) (x5 : Int32) (x6 : Int32) (x7 : Int32) (x8 : Int32) (σ : MI) (τ : ML), I32 σ0 τ0 a1 a2 x1 x2 x3 x4 x5 x6 x7 x8 σ τ → s_Mo_cost_32 P_Mo_next Q_Mo_next σ τ x1 x2 x3 x4 x5 x6 x7 x8 (fun z0 z1 z2 z3 z4 z5 z6 z7 σ9 τ9 => I32 σ0 τ0 a1 a2 z0 z1 z2 z3 z4 z5 z6 z7 σ9 τ9 ∧ m32 σ0 τ0 a1 a2 z0 z1 z2 z3 z4 z5 z6 z7 σ9 τ9 < m32 σ0 τ0 a1 a2 x1 x2 x3 x4 x5 x6 x7 x8 σ τ) (post σ0 τ0 a1 a2)) :
    ∀ (sz : Nat) (σ0 : MI) (τ0 : ML) (a1 : Int32) (a2 : Int32), pre σ0 τ0 a1 a2 → gMi l D (xw ad ci cl) (xt ci cl) (xa ad) y_Mo_cost w_Mo_cost rm_Mo_cost [.ref (ad 29), .int a1, .int a2] sz σ0 τ0 (post σ0 τ0 a1 a2) := by
  intro sz σ0 τ0 a1 a2 hpre
  refine gk_ofWi (cc := b_Mo_cost) (maxL := 11) (ret := (some .int)) (by decide) rfl xa_ok (Nat.le_of_ble_eq_true rfl) ?_
  intro p e s m below meth c ls hx hb hr hlocks hml hown hts hK hP hD hS hl
  have hl : lv_has ls 11 [(0, .ref (ad 29)), (1, .int a1), (2, .int a2)] := hl
  have hown : s.vm.findClass R_Mo = some m.cls := hown
  have hL : ∀ n : Nat, (∀ (x1 : Int32) (x2 : Int32) (x3 : Int32) (x4 : Int32) (x5 : Int32) (x6 : Int32) (x7 : Int32) (x8 : Int32) (σ : MI) (τ : ML) (H : Heap) (locs : List Loc) (ls : Array Slot), m32 σ0 τ0 a1 a2 x1 x2 x3 x4 x5 x6 x7 x8 σ τ < n → I32 σ0 τ0 a1 a2 x1 x2 x3 x4 x5 x6 x7 x8 σ τ → va_P D classes ((xw ad ci cl) σ τ) H → va_D (gA (xa ad) s.heap.size) ((xw ad ci cl) σ τ) → va_S (gA (xa ad) s.heap.size) s.heap H locs → lv_has ls 11 [(0, .ref (ad 29)), (1, .int x1), (2, .int x2), (3, .int x3), (4, .int x4), (5, .int x5), (6, .int x6), (7, .int x7), (8, .int x8)] → W p l e rm_Mo_cost s m [.ref (ad 29), .int a1, .int a2].toArray below meth c H locs 0 0 (gQi D (xw ad ci cl) (xt ci cl) (xa ad) below [.ref (ad 29), .int a1, .int a2] s (post σ0 τ0 a1 a2)) (F0 m 32 ls [])) := by
    intro n
    induction n with
    | zero => exact fun _ _ _ _ _ _ _ _ _ _ _ _ _ hn => absurd hn (Nat.not_lt_zero _)
    | succ n ih =>
      · intro x1 x2 x3 x4 x5 x6 x7 x8 σ τ H locs ls hn hI hP hD hS hl
        have hv := v32 σ0 τ0 a1 a2 x1 x2 x3 x4 x5 x6 x7 x8 σ τ hI
        unfold s_Mo_cost_32 at hv
        have j165 : ∀ (w1 : Int32) (w2 : Int32) (w3 : Int32) (w4 : Int32) (w8 : Int32) (w9 : Int32) (w10 : Int32) (σ1 : MI) (τ1 : ML) (H : Heap) (locs : List Loc) (ls : Array Slot), s_Mo_cost_165 P_Mo_next Q_Mo_next σ1 τ1 w1 w2 w3 w4 w8 w9 w10 (fun z0 z1 z2 z3 z4 z5 z6 z7 σ9 τ9 => I32 σ0 τ0 a1 a2 z0 z1 z2 z3 z4 z5 z6 z7 σ9 τ9 ∧ m32 σ0 τ0 a1 a2 z0 z1 z2 z3 z4 z5 z6 z7 σ9 τ9 < m32 σ0 τ0 a1 a2 x1 x2 x3 x4 x5 x6 x7 x8 σ τ) (post σ0 τ0 a1 a2) → va_P D classes ((xw ad ci cl) σ1 τ1) H → va_D (gA (xa ad) s.heap.size) ((xw ad ci cl) σ1 τ1) → va_S (gA (xa ad) s.heap.size) s.heap H locs → lv_has ls 11 [(0, .ref (ad 29)), (1, .int w1), (2, .int w2), (3, .int w3), (4, .int w4), (8, .int w8), (9, .int w9), (10, .int w10)] → W p l e rm_Mo_cost s m [.ref (ad 29), .int a1, .int a2].toArray below meth c H locs 0 0 (gQi D (xw ad ci cl) (xt ci cl) (xa ad) below [.ref (ad 29), .int a1, .int a2] s (post σ0 τ0 a1 a2)) (F0 m 165 ls []) := by
          intro w1 w2 w3 w4 w8 w9 w10 σ1 τ1 H locs ls hv hP hD hS hl
          unfold s_Mo_cost_165 at hv
          refine lv_iload hx hb d_Mo_cost_165 (lv_at hl 7 rfl) ?_
          refine lv_if_ne (tgt := 173) hx hb d_Mo_cost_167 (by decide) (fun hc => ?_) (fun hc => ?_)
          · replace hv := hv.1 hc
            refine lv_iload_n hx hb d_Mo_cost_173 rfl (lv_at hl 3 rfl) ?_
            refine lv_iload hx hb d_Mo_cost_174 (lv_at hl 6 rfl) ?_
            refine lv_iadd hx hb d_Mo_cost_176 ?_
            refine lv_topi (fun y177 ey177 => ?_)
            replace hv := hv y177 ey177
            refine lv_istore_n (lv' := [(3, .int y177), (0, .ref (ad 29)), (1, .int w1), (2, .int w2), (4, .int w4), (8, .int w8), (9, .int w9), (10, .int w10)]) hx hb d_Mo_cost_177 rfl hl (by decide) rfl (fun ls hl => ?_)
            obtain ⟨y178, ey178⟩ : ∃ z : Int32, z = w4 + 1 := ⟨_, rfl⟩
            replace hv := hv y178 ey178
            refine lv_iinc (v := y178) (lv' := [(4, .int y178), (3, .int y177), (0, .ref (ad 29)), (1, .int w1), (2, .int w2), (8, .int w8), (9, .int w9), (10, .int w10)]) hx hb d_Mo_cost_178 hl (k := 4) rfl (by rw [ey178]; rfl) (by decide) rfl (fun ls hl => ?_)
            refine lv_aload_n hx hb d_Mo_cost_181 rfl (lv_at hl 2 rfl) ?_
            refine va_get (D := D) (ci := 7) (v := .ref (ad 40)) (C := R_Mo) (T := F_Mo) (N := 24) hx hb hts iw_Mo hown hK hP 29 rfl rfl 14 (by decide) (hts _ t_w274) (fun _ h9 => h9) rfl d_Mo_cost_182 ?_
            refine lv_iload hx hb d_Mo_cost_185 (lv_at hl 5 rfl) ?_
            obtain ⟨hi, hv⟩ := hv
            refine va_iald hx hb hK hP 40 0 rfl rfl hi d_Mo_cost_187 ?_
            refine lv_aload_n hx hb d_Mo_cost_188 rfl (lv_at hl 2 rfl) ?_
            refine va_get (D := D) (ci := 7) (v := .int (σ1 29 17)) (C := R_Mo) (T := F_Mo) (N := 24) hx hb hts iw_Mo hown hK hP 29 rfl rfl 17 (by decide) (hts _ t_w277) (fun _ h9 => h9) rfl d_Mo_cost_189 ?_
            refine lv_iadd hx hb d_Mo_cost_192 ?_
            refine lv_topi (fun y193 ey193 => ?_)
            replace hv := hv y193 ey193
            refine lv_istore (lv' := [(5, .int y193), (4, .int y178), (3, .int y177), (0, .ref (ad 29)), (1, .int w1), (2, .int w2), (8, .int w8), (9, .int w9), (10, .int w10)]) hx hb d_Mo_cost_193 hl (by decide) rfl (fun ls hl => ?_)
            refine lv_aload_n hx hb d_Mo_cost_195 rfl (lv_at hl 3 rfl) ?_
            refine va_get (D := D) (ci := 7) (v := .ref (ad 41)) (C := R_Mo) (T := F_Mo) (N := 24) hx hb hts iw_Mo hown hK hP 29 rfl rfl 15 (by decide) (hts _ t_w275) (fun _ h9 => h9) rfl d_Mo_cost_196 ?_
            refine lv_iload hx hb d_Mo_cost_199 (lv_at hl 6 rfl) ?_
            obtain ⟨hi, hv⟩ := hv
            refine va_iald hx hb hK hP 41 0 rfl rfl hi d_Mo_cost_201 ?_
            refine lv_topi (fun y202 ey202 => ?_)
            replace hv := hv y202 ey202
            refine lv_istore (lv' := [(6, .int y202), (5, .int y193), (4, .int y178), (3, .int y177), (0, .ref (ad 29)), (1, .int w1), (2, .int w2), (8, .int w8), (9, .int w9), (10, .int w10)]) hx hb d_Mo_cost_202 hl (by decide) rfl (fun ls hl => ?_)
            refine lv_iload hx hb d_Mo_cost_204 (lv_at hl 7 rfl) ?_
            refine lv_istore (lv' := [(7, .int w8), (6, .int y202), (5, .int y193), (4, .int y178), (3, .int y177), (0, .ref (ad 29)), (1, .int w1), (2, .int w2), (8, .int w8), (9, .int w9), (10, .int w10)]) hx hb d_Mo_cost_206 hl (by decide) rfl (fun ls hl => ?_)
            refine lv_aload_n hx hb d_Mo_cost_208 rfl (lv_at hl 5 rfl) ?_
            refine lv_iload_n hx hb d_Mo_cost_209 rfl (lv_at hl 7 rfl) ?_
            refine lv_iload hx hb d_Mo_cost_210 (lv_at hl 8 rfl) ?_
            obtain ⟨hg, hv⟩ := hv
            refine gk_callVi (As := [.int w2, .int w8]) (rest := []) (b := ad 29) ⟨hx, hb, hml, hown, hts⟩ (h_Mo_next _ σ1 τ1 w2 w8 hg) (gk_cwV 2 hts t_w286 rfl rfl rfl (hts _ t_w283) (hts _ t_w284) (hts _ t_w285) (hts _ t_w252) (by decide +kernel) ⟨Nat.le_of_ble_eq_true rfl, Nat.le_of_ble_eq_true rfl⟩) hK hP hD hS (va_recv hK hP (ci := 7) (q0 := 29) rfl rfl) rfl hl.1 rfl (lv_room (Nat.le_of_ble_eq_true rfl)) d_Mo_cost_212 ⟨Nat.zero_le _, Nat.zero_le _⟩ ?_
            intro r212 s212 t212 H locs hw hP hD hS
            replace hv := hv r212 s212 t212 hw
            refine lv_istore (lv' := [(8, .int r212), (7, .int w8), (6, .int y202), (5, .int y193), (4, .int y178), (3, .int y177), (0, .ref (ad 29)), (1, .int w1), (2, .int w2), (9, .int w9), (10, .int w10)]) hx hb d_Mo_cost_215 hl (by decide) rfl (fun ls hl => ?_)
            refine lv_goto (tgt := 32) hx hb d_Mo_cost_217 (by decide) ?_
            obtain ⟨hI, hm⟩ := hv
            exact ih w1 w2 y177 y178 y193 y202 w8 r212 s212 t212 _ _ _ (Nat.lt_of_lt_of_le hm (Nat.le_of_lt_succ hn)) hI hP hD hS (lv_sub hl [6, 7, 8, 5, 4, 3, 2, 1, 0] rfl)
          · replace hv := hv.2 hc
            refine lv_ldc (v := 1000000000) hx hb hown (hts _ t_w287) d_Mo_cost_170 ?_
            exact gk_iret hx hb hr hlocks hK hP hD hS hv d_Mo_cost_172
        have j126 : ∀ (w1 : Int32) (w2 : Int32) (w3 : Int32) (w4 : Int32) (w7 : Int32) (w8 : Int32) (w9 : Int32) (σ1 : MI) (τ1 : ML) (H : Heap) (locs : List Loc) (ls : Array Slot), s_Mo_cost_126 P_Mo_next Q_Mo_next σ1 τ1 w1 w2 w3 w4 w7 w8 w9 (fun z0 z1 z2 z3 z4 z5 z6 z7 σ9 τ9 => I32 σ0 τ0 a1 a2 z0 z1 z2 z3 z4 z5 z6 z7 σ9 τ9 ∧ m32 σ0 τ0 a1 a2 z0 z1 z2 z3 z4 z5 z6 z7 σ9 τ9 < m32 σ0 τ0 a1 a2 x1 x2 x3 x4 x5 x6 x7 x8 σ τ) (post σ0 τ0 a1 a2) → va_P D classes ((xw ad ci cl) σ1 τ1) H → va_D (gA (xa ad) s.heap.size) ((xw ad ci cl) σ1 τ1) → va_S (gA (xa ad) s.heap.size) s.heap H locs → lv_has ls 11 [(0, .ref (ad 29)), (1, .int w1), (2, .int w2), (3, .int w3), (4, .int w4), (7, .int w7), (8, .int w8), (9, .int w9)] → W p l e rm_Mo_cost s m [.ref (ad 29), .int a1, .int a2].toArray below meth c H locs 0 0 (gQi D (xw ad ci cl) (xt ci cl) (xa ad) below [.ref (ad 29), .int a1, .int a2] s (post σ0 τ0 a1 a2)) (F0 m 126 ls []) := by
          intro w1 w2 w3 w4 w7 w8 w9 σ1 τ1 H locs ls hv hP hD hS hl
          unfold s_Mo_cost_126 at hv
          refine lv_iload hx hb d_Mo_cost_126 (lv_at hl 5 rfl) ?_
          refine lv_if_lt (tgt := 158) hx hb d_Mo_cost_128 (by decide) (fun hc => ?_) (fun hc => ?_)
          · replace hv := hv.1 hc
            refine lv_iconst (v := 1) hx hb d_Mo_cost_158 (by decide) ?_
            refine lv_goto (tgt := 163) hx hb d_Mo_cost_159 (by decide) ?_
            refine lv_istore (lv' := [(10, .int 1), (0, .ref (ad 29)), (1, .int w1), (2, .int w2), (3, .int w3), (4, .int w4), (7, .int w7), (8, .int w8), (9, .int w9)]) hx hb d_Mo_cost_163 hl (by decide) rfl (fun ls hl => ?_)
            exact j165 w1 w2 w3 w4 w8 w9 1 σ1 τ1 _ _ _ hv hP hD hS (lv_sub hl [1, 2, 3, 4, 5, 7, 8, 0] rfl)
          · replace hv := hv.2 hc
            refine lv_aload_n hx hb d_Mo_cost_131 rfl (lv_at hl 0 rfl) ?_
            refine va_get (D := D) (ci := 7) (v := .ref (ad 39)) (C := R_Mo) (T := F_Mo) (N := 24) hx hb hts iw_Mo hown hK hP 29 rfl rfl 13 (by decide) (hts _ t_w273) (fun _ h9 => h9) rfl d_Mo_cost_132 ?_
            refine lv_iload hx hb d_Mo_cost_135 (lv_at hl 6 rfl) ?_
            obtain ⟨hi, hv⟩ := hv
            refine va_iald hx hb hK hP 39 0 rfl rfl hi d_Mo_cost_137 ?_
            refine lv_aload_n hx hb d_Mo_cost_138 rfl (lv_at hl 0 rfl) ?_
            refine va_get (D := D) (ci := 7) (v := .ref (ad 39)) (C := R_Mo) (T := F_Mo) (N := 24) hx hb hts iw_Mo hown hK hP 29 rfl rfl 13 (by decide) (hts _ t_w273) (fun _ h9 => h9) rfl d_Mo_cost_139 ?_
            refine lv_iload hx hb d_Mo_cost_142 (lv_at hl 5 rfl) ?_
            refine lv_if_ge (tgt := 152) hx hb d_Mo_cost_144 (by decide) (fun hc => ?_) (fun hc => ?_)
            · replace hv := hv.1 hc
              refine lv_iload hx hb d_Mo_cost_152 (lv_at hl 5 rfl) ?_
              obtain ⟨hi, hv⟩ := hv
              refine va_iald hx hb hK hP 39 0 rfl rfl hi d_Mo_cost_154 ?_
              refine lv_icmp_le (tgt := 162) hx hb d_Mo_cost_155 (by decide) (fun hc => ?_) (fun hc => ?_)
              · replace hv := hv.1 hc
                refine lv_iconst (v := 0) hx hb d_Mo_cost_162 (by decide) ?_
                refine lv_istore (lv' := [(10, .int 0), (0, .ref (ad 29)), (1, .int w1), (2, .int w2), (3, .int w3), (4, .int w4), (7, .int w7), (8, .int w8), (9, .int w9)]) hx hb d_Mo_cost_163 hl (by decide) rfl (fun ls hl => ?_)
                exact j165 w1 w2 w3 w4 w8 w9 0 σ1 τ1 _ _ _ hv hP hD hS (lv_sub hl [1, 2, 3, 4, 5, 7, 8, 0] rfl)
              · replace hv := hv.2 hc
                refine lv_iconst (v := 1) hx hb d_Mo_cost_158 (by decide) ?_
                refine lv_goto (tgt := 163) hx hb d_Mo_cost_159 (by decide) ?_
                refine lv_istore (lv' := [(10, .int 1), (0, .ref (ad 29)), (1, .int w1), (2, .int w2), (3, .int w3), (4, .int w4), (7, .int w7), (8, .int w8), (9, .int w9)]) hx hb d_Mo_cost_163 hl (by decide) rfl (fun ls hl => ?_)
                exact j165 w1 w2 w3 w4 w8 w9 1 σ1 τ1 _ _ _ hv hP hD hS (lv_sub hl [1, 2, 3, 4, 5, 7, 8, 0] rfl)
            · replace hv := hv.2 hc
              refine lv_iload hx hb d_Mo_cost_147 (lv_at hl 6 rfl) ?_
              refine lv_goto (tgt := 154) hx hb d_Mo_cost_149 (by decide) ?_
              obtain ⟨hi, hv⟩ := hv
              refine va_iald hx hb hK hP 39 0 rfl rfl hi d_Mo_cost_154 ?_
              refine lv_icmp_le (tgt := 162) hx hb d_Mo_cost_155 (by decide) (fun hc => ?_) (fun hc => ?_)
              · replace hv := hv.1 hc
                refine lv_iconst (v := 0) hx hb d_Mo_cost_162 (by decide) ?_
                refine lv_istore (lv' := [(10, .int 0), (0, .ref (ad 29)), (1, .int w1), (2, .int w2), (3, .int w3), (4, .int w4), (7, .int w7), (8, .int w8), (9, .int w9)]) hx hb d_Mo_cost_163 hl (by decide) rfl (fun ls hl => ?_)
                exact j165 w1 w2 w3 w4 w8 w9 0 σ1 τ1 _ _ _ hv hP hD hS (lv_sub hl [1, 2, 3, 4, 5, 7, 8, 0] rfl)
              · replace hv := hv.2 hc
                refine lv_iconst (v := 1) hx hb d_Mo_cost_158 (by decide) ?_
                refine lv_goto (tgt := 163) hx hb d_Mo_cost_159 (by decide) ?_
                refine lv_istore (lv' := [(10, .int 1), (0, .ref (ad 29)), (1, .int w1), (2, .int w2), (3, .int w3), (4, .int w4), (7, .int w7), (8, .int w8), (9, .int w9)]) hx hb d_Mo_cost_163 hl (by decide) rfl (fun ls hl => ?_)
                exact j165 w1 w2 w3 w4 w8 w9 1 σ1 τ1 _ _ _ hv hP hD hS (lv_sub hl [1, 2, 3, 4, 5, 7, 8, 0] rfl)
        refine lv_iload hx hb d_Mo_cost_32 (lv_at hl 8 rfl) ?_
        refine lv_if_lt (tgt := 220) hx hb d_Mo_cost_34 (by decide) (fun hc => ?_) (fun hc => ?_)
        · replace hv := hv.1 hc
          refine lv_aload_n hx hb d_Mo_cost_220 rfl (lv_at hl 0 rfl) ?_
          refine va_get (D := D) (ci := 7) (v := .ref (ad 34)) (C := R_Mo) (T := F_Mo) (N := 24) hx hb hts iw_Mo hown hK hP 29 rfl rfl 6 (by decide) (hts _ t_w282) (fun _ h9 => h9) rfl d_Mo_cost_221 ?_
          refine lv_iload_n hx hb d_Mo_cost_224 rfl (lv_at hl 1 rfl) ?_
          obtain ⟨hi, hv⟩ := hv
          refine va_iald hx hb hK hP 34 0 rfl rfl hi d_Mo_cost_225 ?_
          refine lv_iconst (v := 2) hx hb d_Mo_cost_226 (by decide) ?_
          refine lv_icmp_ne (tgt := 241) hx hb d_Mo_cost_227 (by decide) (fun hc => ?_) (fun hc => ?_)
          · replace hv := hv.1 hc
            refine lv_iload_n hx hb d_Mo_cost_241 rfl (lv_at hl 3 rfl) ?_
            exact gk_iret hx hb hr hlocks hK hP hD hS hv d_Mo_cost_242
          · replace hv := hv.2 hc
            refine lv_iload hx hb d_Mo_cost_230 (lv_at hl 4 rfl) ?_
            refine lv_iconst (v := 2) hx hb d_Mo_cost_232 (by decide) ?_
            refine lv_icmp_le (tgt := 241) hx hb d_Mo_cost_233 (by decide) (fun hc => ?_) (fun hc => ?_)
            · replace hv := hv.1 hc
              refine lv_iload_n hx hb d_Mo_cost_241 rfl (lv_at hl 3 rfl) ?_
              exact gk_iret hx hb hr hlocks hK hP hD hS hv d_Mo_cost_242
            · replace hv := hv.2 hc
              refine lv_ldc (v := 1000000000) hx hb hown (hts _ t_w287) d_Mo_cost_236 ?_
              refine lv_goto (tgt := 242) hx hb d_Mo_cost_238 (by decide) ?_
              exact gk_iret hx hb hr hlocks hK hP hD hS hv d_Mo_cost_242
        · replace hv := hv.2 hc
          refine lv_aload_n hx hb d_Mo_cost_37 rfl (lv_at hl 0 rfl) ?_
          refine va_get (D := D) (ci := 7) (v := .ref (ad 42)) (C := R_Mo) (T := F_Mo) (N := 24) hx hb hts iw_Mo hown hK hP 29 rfl rfl 16 (by decide) (hts _ t_w276) (fun _ h9 => h9) rfl d_Mo_cost_38 ?_
          refine lv_iconst (v := 5) hx hb d_Mo_cost_41 (by decide) ?_
          refine lv_iload hx hb d_Mo_cost_42 (lv_at hl 6 rfl) ?_
          refine lv_imul hx hb d_Mo_cost_44 ?_
          refine lv_aload_n hx hb d_Mo_cost_45 rfl (lv_at hl 0 rfl) ?_
          refine va_get (D := D) (ci := 7) (v := .ref (ad 41)) (C := R_Mo) (T := F_Mo) (N := 24) hx hb hts iw_Mo hown hK hP 29 rfl rfl 15 (by decide) (hts _ t_w275) (fun _ h9 => h9) rfl d_Mo_cost_46 ?_
          refine lv_iload hx hb d_Mo_cost_49 (lv_at hl 8 rfl) ?_
          obtain ⟨hi, hv⟩ := hv
          refine va_iald hx hb hK hP 41 0 rfl rfl hi d_Mo_cost_51 ?_
          refine lv_iadd hx hb d_Mo_cost_52 ?_
          obtain ⟨hi, hv⟩ := hv
          refine va_iald hx hb hK hP 42 0 rfl rfl hi d_Mo_cost_53 ?_
          refine lv_topi (fun y54 ey54 => ?_)
          replace hv := hv y54 ey54
          refine lv_istore (lv' := [(9, .int y54), (0, .ref (ad 29)), (1, .int x1), (2, .int x2), (3, .int x3), (4, .int x4), (5, .int x5), (6, .int x6), (7, .int x7), (8, .int x8)]) hx hb d_Mo_cost_54 hl (by decide) rfl (fun ls hl => ?_)
          refine lv_aload_n hx hb d_Mo_cost_56 rfl (lv_at hl 1 rfl) ?_
          refine va_get (D := D) (ci := 7) (v := .ref (ad 37)) (C := R_Mo) (T := F_Mo) (N := 24) hx hb hts iw_Mo hown hK hP 29 rfl rfl 11 (by decide) (hts _ t_w271) (fun _ h9 => h9) rfl d_Mo_cost_57 ?_
          refine lv_iload hx hb d_Mo_cost_60 (lv_at hl 9 rfl) ?_
          obtain ⟨hi, hv⟩ := hv
          refine va_iald hx hb hK hP 37 0 rfl rfl hi d_Mo_cost_62 ?_
          refine lv_aload_n hx hb d_Mo_cost_63 rfl (lv_at hl 1 rfl) ?_
          refine va_get (D := D) (ci := 7) (v := .ref (ad 30)) (C := R_Mo) (T := F_Mo) (N := 24) hx hb hts iw_Mo hown hK hP 29 rfl rfl 2 (by decide) (hts _ t_w264) (fun _ h9 => h9) rfl d_Mo_cost_64 ?_
          refine lv_iload_n hx hb d_Mo_cost_67 rfl (lv_at hl 2 rfl) ?_
          obtain ⟨hi, hv⟩ := hv
          refine va_iald hx hb hK hP 30 0 rfl rfl hi d_Mo_cost_68 ?_
          refine lv_icmp_gt (tgt := 162) hx hb d_Mo_cost_69 (by decide) (fun hc => ?_) (fun hc => ?_)
          · replace hv := hv.1 hc
            refine lv_iconst (v := 0) hx hb d_Mo_cost_162 (by decide) ?_
            refine lv_istore (lv' := [(10, .int 0), (9, .int y54), (0, .ref (ad 29)), (1, .int x1), (2, .int x2), (3, .int x3), (4, .int x4), (5, .int x5), (6, .int x6), (7, .int x7), (8, .int x8)]) hx hb d_Mo_cost_163 hl (by decide) rfl (fun ls hl => ?_)
            exact j165 x1 x2 x3 x4 x8 y54 0 σ τ _ _ _ hv hP hD hS (lv_sub hl [2, 3, 4, 5, 6, 10, 1, 0] rfl)
          · replace hv := hv.2 hc
            refine lv_aload_n hx hb d_Mo_cost_72 rfl (lv_at hl 1 rfl) ?_
            refine va_get (D := D) (ci := 7) (v := .ref (ad 39)) (C := R_Mo) (T := F_Mo) (N := 24) hx hb hts iw_Mo hown hK hP 29 rfl rfl 13 (by decide) (hts _ t_w273) (fun _ h9 => h9) rfl d_Mo_cost_73 ?_
            refine lv_iload hx hb d_Mo_cost_76 (lv_at hl 9 rfl) ?_
            obtain ⟨hi, hv⟩ := hv
            refine va_iald hx hb hK hP 39 0 rfl rfl hi d_Mo_cost_78 ?_
            refine lv_iload hx hb d_Mo_cost_79 (lv_at hl 6 rfl) ?_
            refine lv_iload hx hb d_Mo_cost_81 (lv_at hl 0 rfl) ?_
            refine lv_iadd hx hb d_Mo_cost_83 ?_
            refine lv_icmp_lt (tgt := 162) hx hb d_Mo_cost_84 (by decide) (fun hc => ?_) (fun hc => ?_)
            · replace hv := hv.1 hc
              refine lv_iconst (v := 0) hx hb d_Mo_cost_162 (by decide) ?_
              refine lv_istore (lv' := [(10, .int 0), (9, .int y54), (0, .ref (ad 29)), (1, .int x1), (2, .int x2), (3, .int x3), (4, .int x4), (5, .int x5), (6, .int x6), (7, .int x7), (8, .int x8)]) hx hb d_Mo_cost_163 hl (by decide) rfl (fun ls hl => ?_)
              exact j165 x1 x2 x3 x4 x8 y54 0 σ τ _ _ _ hv hP hD hS (lv_sub hl [2, 3, 4, 5, 6, 10, 1, 0] rfl)
            · replace hv := hv.2 hc
              refine lv_aload_n hx hb d_Mo_cost_87 rfl (lv_at hl 1 rfl) ?_
              refine va_get (D := D) (ci := 7) (v := .ref (ad 40)) (C := R_Mo) (T := F_Mo) (N := 24) hx hb hts iw_Mo hown hK hP 29 rfl rfl 14 (by decide) (hts _ t_w274) (fun _ h9 => h9) rfl d_Mo_cost_88 ?_
              refine lv_iload hx hb d_Mo_cost_91 (lv_at hl 9 rfl) ?_
              obtain ⟨hi, hv⟩ := hv
              refine va_iald hx hb hK hP 40 0 rfl rfl hi d_Mo_cost_93 ?_
              refine lv_aload_n hx hb d_Mo_cost_94 rfl (lv_at hl 1 rfl) ?_
              refine va_get (D := D) (ci := 7) (v := .ref (ad 32)) (C := R_Mo) (T := F_Mo) (N := 24) hx hb hts iw_Mo hown hK hP 29 rfl rfl 4 (by decide) (hts _ t_w266) (fun _ h9 => h9) rfl d_Mo_cost_95 ?_
              refine lv_iload_n hx hb d_Mo_cost_98 rfl (lv_at hl 2 rfl) ?_
              obtain ⟨hi, hv⟩ := hv
              refine va_iald hx hb hK hP 32 0 rfl rfl hi d_Mo_cost_99 ?_
              refine lv_icmp_gt (tgt := 162) hx hb d_Mo_cost_100 (by decide) (fun hc => ?_) (fun hc => ?_)
              · replace hv := hv.1 hc
                refine lv_iconst (v := 0) hx hb d_Mo_cost_162 (by decide) ?_
                refine lv_istore (lv' := [(10, .int 0), (9, .int y54), (0, .ref (ad 29)), (1, .int x1), (2, .int x2), (3, .int x3), (4, .int x4), (5, .int x5), (6, .int x6), (7, .int x7), (8, .int x8)]) hx hb d_Mo_cost_163 hl (by decide) rfl (fun ls hl => ?_)
                exact j165 x1 x2 x3 x4 x8 y54 0 σ τ _ _ _ hv hP hD hS (lv_sub hl [2, 3, 4, 5, 6, 10, 1, 0] rfl)
              · replace hv := hv.2 hc
                refine lv_aload_n hx hb d_Mo_cost_103 rfl (lv_at hl 1 rfl) ?_
                refine va_get (D := D) (ci := 7) (v := .ref (ad 34)) (C := R_Mo) (T := F_Mo) (N := 24) hx hb hts iw_Mo hown hK hP 29 rfl rfl 6 (by decide) (hts _ t_w282) (fun _ h9 => h9) rfl d_Mo_cost_104 ?_
                refine lv_iload_n hx hb d_Mo_cost_107 rfl (lv_at hl 2 rfl) ?_
                obtain ⟨hi, hv⟩ := hv
                refine va_iald hx hb hK hP 34 0 rfl rfl hi d_Mo_cost_108 ?_
                refine lv_iconst (v := 1) hx hb d_Mo_cost_109 (by decide) ?_
                refine lv_icmp_ne (tgt := 126) hx hb d_Mo_cost_110 (by decide) (fun hc => ?_) (fun hc => ?_)
                · replace hv := hv.1 hc
                  exact j126 x1 x2 x3 x4 x7 x8 y54 σ τ _ _ _ hv hP hD hS (lv_sub hl [1, 2, 3, 4, 5, 8, 9, 0] rfl)
                · replace hv := hv.2 hc
                  refine lv_aload_n hx hb d_Mo_cost_113 rfl (lv_at hl 1 rfl) ?_
                  refine va_get (D := D) (ci := 7) (v := .ref (ad 39)) (C := R_Mo) (T := F_Mo) (N := 24) hx hb hts iw_Mo hown hK hP 29 rfl rfl 13 (by decide) (hts _ t_w273) (fun _ h9 => h9) rfl d_Mo_cost_114 ?_
                  refine lv_iload hx hb d_Mo_cost_117 (lv_at hl 9 rfl) ?_
                  obtain ⟨hi, hv⟩ := hv
                  refine va_iald hx hb hK hP 39 0 rfl rfl hi d_Mo_cost_119 ?_
                  refine lv_sipush (v := 360) hx hb d_Mo_cost_120 (by decide) ?_
                  refine lv_icmp_lt (tgt := 162) hx hb d_Mo_cost_123 (by decide) (fun hc => ?_) (fun hc => ?_)
                  · replace hv := hv.1 hc
                    refine lv_iconst (v := 0) hx hb d_Mo_cost_162 (by decide) ?_
                    refine lv_istore (lv' := [(10, .int 0), (9, .int y54), (0, .ref (ad 29)), (1, .int x1), (2, .int x2), (3, .int x3), (4, .int x4), (5, .int x5), (6, .int x6), (7, .int x7), (8, .int x8)]) hx hb d_Mo_cost_163 hl (by decide) rfl (fun ls hl => ?_)
                    exact j165 x1 x2 x3 x4 x8 y54 0 σ τ _ _ _ hv hP hD hS (lv_sub hl [2, 3, 4, 5, 6, 10, 1, 0] rfl)
                  · replace hv := hv.2 hc
                    exact j126 x1 x2 x3 x4 x7 x8 y54 σ τ _ _ _ hv hP hD hS (lv_sub hl [1, 2, 3, 4, 5, 8, 9, 0] rfl)
  have hv := v0 σ0 τ0 a1 a2 hpre
  unfold s_Mo_cost_0 at hv
  refine lv_iconst (v := 0) hx hb d_Mo_cost_0 (by decide) ?_
  refine lv_istore_n (lv' := [(3, .int 0), (0, .ref (ad 29)), (1, .int a1), (2, .int a2)]) hx hb d_Mo_cost_1 rfl hl (by decide) rfl (fun ls hl => ?_)
  refine lv_iconst (v := 0) hx hb d_Mo_cost_2 (by decide) ?_
  refine lv_istore (lv' := [(4, .int 0), (3, .int 0), (0, .ref (ad 29)), (1, .int a1), (2, .int a2)]) hx hb d_Mo_cost_3 hl (by decide) rfl (fun ls hl => ?_)
  refine lv_aload_n hx hb d_Mo_cost_5 rfl (lv_at hl 2 rfl) ?_
  refine va_get (D := D) (ci := 7) (v := .ref (ad 31)) (C := R_Mo) (T := F_Mo) (N := 24) hx hb hts iw_Mo hown hK hP 29 rfl rfl 3 (by decide) (hts _ t_w265) (fun _ h9 => h9) rfl d_Mo_cost_6 ?_
  refine lv_iload_n hx hb d_Mo_cost_9 rfl (lv_at hl 3 rfl) ?_
  obtain ⟨hi, hv⟩ := hv
  refine va_iald hx hb hK hP 31 0 rfl rfl hi d_Mo_cost_10 ?_
  refine lv_topi (fun y11 ey11 => ?_)
  replace hv := hv y11 ey11
  refine lv_istore (lv' := [(5, .int y11), (4, .int 0), (3, .int 0), (0, .ref (ad 29)), (1, .int a1), (2, .int a2)]) hx hb d_Mo_cost_11 hl (by decide) rfl (fun ls hl => ?_)
  refine lv_aload_n hx hb d_Mo_cost_13 rfl (lv_at hl 3 rfl) ?_
  refine va_get (D := D) (ci := 7) (v := .ref (ad 33)) (C := R_Mo) (T := F_Mo) (N := 24) hx hb hts iw_Mo hown hK hP 29 rfl rfl 5 (by decide) (hts _ t_w267) (fun _ h9 => h9) rfl d_Mo_cost_14 ?_
  refine lv_iload_n hx hb d_Mo_cost_17 rfl (lv_at hl 4 rfl) ?_
  obtain ⟨hi, hv⟩ := hv
  refine va_iald hx hb hK hP 33 0 rfl rfl hi d_Mo_cost_18 ?_
  refine lv_topi (fun y19 ey19 => ?_)
  replace hv := hv y19 ey19
  refine lv_istore (lv' := [(6, .int y19), (5, .int y11), (4, .int 0), (3, .int 0), (0, .ref (ad 29)), (1, .int a1), (2, .int a2)]) hx hb d_Mo_cost_19 hl (by decide) rfl (fun ls hl => ?_)
  refine lv_iconst (v := (-1)) hx hb d_Mo_cost_21 (by decide) ?_
  refine lv_topi (fun y22 ey22 => ?_)
  replace hv := hv y22 ey22
  refine lv_istore (lv' := [(7, .int y22), (6, .int y19), (5, .int y11), (4, .int 0), (3, .int 0), (0, .ref (ad 29)), (1, .int a1), (2, .int a2)]) hx hb d_Mo_cost_22 hl (by decide) rfl (fun ls hl => ?_)
  refine lv_aload_n hx hb d_Mo_cost_24 rfl (lv_at hl 5 rfl) ?_
  refine lv_iload_n hx hb d_Mo_cost_25 rfl (lv_at hl 7 rfl) ?_
  refine lv_iconst (v := (-1)) hx hb d_Mo_cost_26 (by decide) ?_
  obtain ⟨hg, hv⟩ := hv
  refine gk_callVi (As := [.int a2, .int ((-1))]) (rest := []) (b := ad 29) ⟨hx, hb, hml, hown, hts⟩ (h_Mo_next _ σ0 τ0 a2 ((-1)) hg) (gk_cwV 2 hts t_w286 rfl rfl rfl (hts _ t_w283) (hts _ t_w284) (hts _ t_w285) (hts _ t_w252) (by decide +kernel) ⟨Nat.le_of_ble_eq_true rfl, Nat.le_of_ble_eq_true rfl⟩) hK hP hD hS (va_recv hK hP (ci := 7) (q0 := 29) rfl rfl) rfl hl.1 rfl (lv_room (Nat.le_of_ble_eq_true rfl)) d_Mo_cost_27 ⟨Nat.zero_le _, Nat.zero_le _⟩ ?_
  intro r27 s27 t27 H locs hw hP hD hS
  replace hv := hv r27 s27 t27 hw
  refine lv_istore (lv' := [(8, .int r27), (7, .int y22), (6, .int y19), (5, .int y11), (4, .int 0), (3, .int 0), (0, .ref (ad 29)), (1, .int a1), (2, .int a2)]) hx hb d_Mo_cost_30 hl (by decide) rfl (fun ls hl => ?_)
  exact (hL _) a1 a2 0 0 y11 y19 y22 r27 s27 t27 _ _ _ (Nat.lt_succ_self _) hv hP hD hS (lv_sub hl [6, 7, 8, 5, 4, 3, 2, 1, 0] rfl)
theorem d_Mo_isBarred_0 : decode b_Mo_isBarred 0 = .ok (.aload_n 0, 1) := by decide +kernel
theorem d_Mo_isBarred_1 : decode b_Mo_isBarred 1 = .ok (.getfield 105, 3) := by decide +kernel
theorem d_Mo_isBarred_4 : decode b_Mo_isBarred 4 = .ok (.iload_n 1, 1) := by decide +kernel
theorem d_Mo_isBarred_5 : decode b_Mo_isBarred 5 = .ok (.ishr, 1) := by decide +kernel
theorem d_Mo_isBarred_6 : decode b_Mo_isBarred 6 = .ok (.iconst 1, 1) := by decide +kernel
theorem d_Mo_isBarred_7 : decode b_Mo_isBarred 7 = .ok (.iand, 1) := by decide +kernel
theorem d_Mo_isBarred_8 : decode b_Mo_isBarred 8 = .ok (.iconst 1, 1) := by decide +kernel
theorem d_Mo_isBarred_9 : decode b_Mo_isBarred 9 = .ok (.if_icmp .ne 7, 3) := by decide +kernel
theorem d_Mo_isBarred_12 : decode b_Mo_isBarred 12 = .ok (.iconst 1, 1) := by decide +kernel
theorem d_Mo_isBarred_13 : decode b_Mo_isBarred 13 = .ok (.goto 4, 3) := by decide +kernel
theorem d_Mo_isBarred_16 : decode b_Mo_isBarred 16 = .ok (.iconst 0, 1) := by decide +kernel
theorem d_Mo_isBarred_17 : decode b_Mo_isBarred 17 = .ok (.ireturn, 1) := by decide +kernel
def s_Mo_isBarred_0 (σ : MI) (τ : ML) (a1 : Int32) (R : Int32 → MI → ML → Prop) : Prop :=
  (¬ (((σ 29 21) >>> (a1 &&& 31)) &&& 1) = 1 →
  ((0 = (0 : Int32) ∨ 0 = (1 : Int32)) ∧ R 0 σ τ)) ∧
  ((((σ 29 21) >>> (a1 &&& 31)) &&& 1) = 1 →
  ((1 = (0 : Int32) ∨ 1 = (1 : Int32)) ∧ R 1 σ τ))
set_option maxHeartbeats 4000000 in
set_option maxRecDepth 100000 in
theorem k_Mo_isBarred (l : Launch) (D : va_G) (ad : Nat → Nat) (ci cl : ClassId)
    (pre : MI → ML → Int32 → Prop) (post : MI → ML → Int32 → Int32 → MI → ML → Prop)
    (v0 : ∀ (σ0 : MI) (τ0 : ML) (a1 : Int32), pre σ0 τ0 a1 → s_Mo_isBarred_0 σ0 τ0 a1 (post σ0 τ0 a1)) :
    ∀ (sz : Nat) (σ0 : MI) (τ0 : ML) (a1 : Int32), pre σ0 τ0 a1 → gMi l D (xw ad ci cl) (xt ci cl) (xa ad) y_Mo_isBarred w_Mo_isBarred rm_Mo_isBarred [.ref (ad 29), .int a1] sz σ0 τ0 (post σ0 τ0 a1) := by
  intro sz σ0 τ0 a1 hpre
  refine gk_ofWi (cc := b_Mo_isBarred) (maxL := 2) (ret := (some .boolean)) (by decide) rfl xa_ok (Nat.le_of_ble_eq_true rfl) ?_
  intro p e s m below meth c ls hx hb hr hlocks hml hown hts hK hP hD hS hl
  have hl : lv_has ls 2 [(0, .ref (ad 29)), (1, .int a1)] := hl
  have hown : s.vm.findClass R_Mo = some m.cls := hown
  have hv := v0 σ0 τ0 a1 hpre
  unfold s_Mo_isBarred_0 at hv
  refine lv_aload_n hx hb d_Mo_isBarred_0 rfl (lv_at hl 0 rfl) ?_
  refine va_get (D := D) (ci := 7) (v := .int (σ0 29 21)) (C := R_Mo) (T := F_Mo) (N := 24) hx hb hts iw_Mo hown hK hP 29 rfl rfl 21 (by decide) (hts _ t_w288) (fun _ h9 => h9) rfl d_Mo_isBarred_1 ?_
  refine lv_iload_n hx hb d_Mo_isBarred_4 rfl (lv_at hl 1 rfl) ?_
  refine lv_ishr hx hb d_Mo_isBarred_5 ?_
  refine lv_iconst (v := 1) hx hb d_Mo_isBarred_6 (by decide) ?_
  refine lv_iand hx hb d_Mo_isBarred_7 ?_
  refine lv_iconst (v := 1) hx hb d_Mo_isBarred_8 (by decide) ?_
  refine lv_icmp_ne (tgt := 16) hx hb d_Mo_isBarred_9 (by decide) (fun hc => ?_) (fun hc => ?_)
  · replace hv := hv.1 hc
    refine lv_iconst (v := 0) hx hb d_Mo_isBarred_16 (by decide) ?_
    obtain ⟨hz, hv⟩ := hv
    exact gk_zret hx hb hr hlocks (gk_nz hz) hK hP hD hS hv d_Mo_isBarred_17
  · replace hv := hv.2 hc
    refine lv_iconst (v := 1) hx hb d_Mo_isBarred_12 (by decide) ?_
    refine lv_goto (tgt := 17) hx hb d_Mo_isBarred_13 (by decide) ?_
    obtain ⟨hz, hv⟩ := hv
    exact gk_zret hx hb hr hlocks (gk_nz hz) hK hP hD hS hv d_Mo_isBarred_17
theorem d_Mo_asks_0 : decode b_Mo_asks 0 = .ok (.aload_n 0, 1) := by decide +kernel
theorem d_Mo_asks_1 : decode b_Mo_asks 1 = .ok (.iconst 0, 1) := by decide +kernel
theorem d_Mo_asks_2 : decode b_Mo_asks 2 = .ok (.putfield 105, 3) := by decide +kernel
theorem d_Mo_asks_5 : decode b_Mo_asks 5 = .ok (.iconst 0, 1) := by decide +kernel
theorem d_Mo_asks_6 : decode b_Mo_asks 6 = .ok (.istore_n 1, 1) := by decide +kernel
theorem d_Mo_asks_7 : decode b_Mo_asks 7 = .ok (.iload_n 1, 1) := by decide +kernel
theorem d_Mo_asks_8 : decode b_Mo_asks 8 = .ok (.aload_n 0, 1) := by decide +kernel
theorem d_Mo_asks_9 : decode b_Mo_asks 9 = .ok (.getfield 65, 3) := by decide +kernel
theorem d_Mo_asks_12 : decode b_Mo_asks 12 = .ok (.if_icmp .ge 105, 3) := by decide +kernel
theorem d_Mo_asks_15 : decode b_Mo_asks 15 = .ok (.iconst 0, 1) := by decide +kernel
theorem d_Mo_asks_16 : decode b_Mo_asks 16 = .ok (.istore_n 2, 1) := by decide +kernel
theorem d_Mo_asks_17 : decode b_Mo_asks 17 = .ok (.iconst 0, 1) := by decide +kernel
theorem d_Mo_asks_18 : decode b_Mo_asks 18 = .ok (.istore_n 3, 1) := by decide +kernel
theorem d_Mo_asks_19 : decode b_Mo_asks 19 = .ok (.iload_n 3, 1) := by decide +kernel
theorem d_Mo_asks_20 : decode b_Mo_asks 20 = .ok (.aload_n 0, 1) := by decide +kernel
theorem d_Mo_asks_21 : decode b_Mo_asks 21 = .ok (.getfield 68, 3) := by decide +kernel
theorem d_Mo_asks_24 : decode b_Mo_asks 24 = .ok (.if_icmp .ge 49, 3) := by decide +kernel
theorem d_Mo_asks_27 : decode b_Mo_asks 27 = .ok (.iload_n 2, 1) := by decide +kernel
theorem d_Mo_asks_28 : decode b_Mo_asks 28 = .ok (.ifCond .ne 33, 3) := by decide +kernel
theorem d_Mo_asks_31 : decode b_Mo_asks 31 = .ok (.aload_n 0, 1) := by decide +kernel
theorem d_Mo_asks_32 : decode b_Mo_asks 32 = .ok (.getfield 22, 3) := by decide +kernel
theorem d_Mo_asks_35 : decode b_Mo_asks 35 = .ok (.iload_n 1, 1) := by decide +kernel
theorem d_Mo_asks_36 : decode b_Mo_asks 36 = .ok (.iaload, 1) := by decide +kernel
theorem d_Mo_asks_37 : decode b_Mo_asks 37 = .ok (.iconst 4, 1) := by decide +kernel
theorem d_Mo_asks_38 : decode b_Mo_asks 38 = .ok (.if_icmp .eq 23, 3) := by decide +kernel
theorem d_Mo_asks_41 : decode b_Mo_asks 41 = .ok (.aload_n 0, 1) := by decide +kernel
theorem d_Mo_asks_42 : decode b_Mo_asks 42 = .ok (.getfield 22, 3) := by decide +kernel
theorem d_Mo_asks_45 : decode b_Mo_asks 45 = .ok (.iload_n 1, 1) := by decide +kernel
theorem d_Mo_asks_46 : decode b_Mo_asks 46 = .ok (.iaload, 1) := by decide +kernel
theorem d_Mo_asks_47 : decode b_Mo_asks 47 = .ok (.iconst 3, 1) := by decide +kernel
theorem d_Mo_asks_48 : decode b_Mo_asks 48 = .ok (.if_icmp .ne 17, 3) := by decide +kernel
theorem d_Mo_asks_51 : decode b_Mo_asks 51 = .ok (.aload_n 0, 1) := by decide +kernel
theorem d_Mo_asks_52 : decode b_Mo_asks 52 = .ok (.getfield 31, 3) := by decide +kernel
theorem d_Mo_asks_55 : decode b_Mo_asks 55 = .ok (.iload_n 3, 1) := by decide +kernel
theorem d_Mo_asks_56 : decode b_Mo_asks 56 = .ok (.iaload, 1) := by decide +kernel
theorem d_Mo_asks_57 : decode b_Mo_asks 57 = .ok (.iconst 5, 1) := by decide +kernel
theorem d_Mo_asks_58 : decode b_Mo_asks 58 = .ok (.if_icmp .ne 7, 3) := by decide +kernel
theorem d_Mo_asks_61 : decode b_Mo_asks 61 = .ok (.iconst 1, 1) := by decide +kernel
theorem d_Mo_asks_62 : decode b_Mo_asks 62 = .ok (.goto 4, 3) := by decide +kernel
theorem d_Mo_asks_65 : decode b_Mo_asks 65 = .ok (.iconst 0, 1) := by decide +kernel
theorem d_Mo_asks_66 : decode b_Mo_asks 66 = .ok (.istore_n 2, 1) := by decide +kernel
theorem d_Mo_asks_67 : decode b_Mo_asks 67 = .ok (.iinc 3 1, 3) := by decide +kernel
theorem d_Mo_asks_70 : decode b_Mo_asks 70 = .ok (.goto (-51), 3) := by decide +kernel
theorem d_Mo_asks_73 : decode b_Mo_asks 73 = .ok (.aload_n 0, 1) := by decide +kernel
theorem d_Mo_asks_74 : decode b_Mo_asks 74 = .ok (.getfield 25, 3) := by decide +kernel
theorem d_Mo_asks_77 : decode b_Mo_asks 77 = .ok (.iload_n 1, 1) := by decide +kernel
theorem d_Mo_asks_78 : decode b_Mo_asks 78 = .ok (.dup2, 1) := by decide +kernel
theorem d_Mo_asks_79 : decode b_Mo_asks 79 = .ok (.iaload, 1) := by decide +kernel
theorem d_Mo_asks_80 : decode b_Mo_asks 80 = .ok (.iload_n 2, 1) := by decide +kernel
theorem d_Mo_asks_81 : decode b_Mo_asks 81 = .ok (.ifCond .eq 7, 3) := by decide +kernel
theorem d_Mo_asks_84 : decode b_Mo_asks 84 = .ok (.iconst 1, 1) := by decide +kernel
theorem d_Mo_asks_85 : decode b_Mo_asks 85 = .ok (.goto 4, 3) := by decide +kernel
theorem d_Mo_asks_88 : decode b_Mo_asks 88 = .ok (.iconst 0, 1) := by decide +kernel
theorem d_Mo_asks_89 : decode b_Mo_asks 89 = .ok (.iadd, 1) := by decide +kernel
theorem d_Mo_asks_90 : decode b_Mo_asks 90 = .ok (.iastore, 1) := by decide +kernel
theorem d_Mo_asks_91 : decode b_Mo_asks 91 = .ok (.aload_n 0, 1) := by decide +kernel
theorem d_Mo_asks_92 : decode b_Mo_asks 92 = .ok (.dup, 1) := by decide +kernel
theorem d_Mo_asks_93 : decode b_Mo_asks 93 = .ok (.getfield 105, 3) := by decide +kernel
theorem d_Mo_asks_96 : decode b_Mo_asks 96 = .ok (.iload_n 2, 1) := by decide +kernel
theorem d_Mo_asks_97 : decode b_Mo_asks 97 = .ok (.ifCond .eq 9, 3) := by decide +kernel
theorem d_Mo_asks_100 : decode b_Mo_asks 100 = .ok (.iconst 1, 1) := by decide +kernel
theorem d_Mo_asks_101 : decode b_Mo_asks 101 = .ok (.iload_n 1, 1) := by decide +kernel
theorem d_Mo_asks_102 : decode b_Mo_asks 102 = .ok (.ishl, 1) := by decide +kernel
theorem d_Mo_asks_103 : decode b_Mo_asks 103 = .ok (.goto 4, 3) := by decide +kernel
theorem d_Mo_asks_106 : decode b_Mo_asks 106 = .ok (.iconst 0, 1) := by decide +kernel
theorem d_Mo_asks_107 : decode b_Mo_asks 107 = .ok (.ior, 1) := by decide +kernel
theorem d_Mo_asks_108 : decode b_Mo_asks 108 = .ok (.putfield 105, 3) := by decide +kernel
theorem d_Mo_asks_111 : decode b_Mo_asks 111 = .ok (.iinc 1 1, 3) := by decide +kernel
theorem d_Mo_asks_114 : decode b_Mo_asks 114 = .ok (.goto (-107), 3) := by decide +kernel
theorem d_Mo_asks_117 : decode b_Mo_asks 117 = .ok (.return_, 1) := by decide +kernel
def s_Mo_asks_91 (σ : MI) (τ : ML) (x1 : Int32) (x2 : Int32) (K7 : Int32 → MI → ML → Prop) (K19 : Int32 → Int32 → Int32 → MI → ML → Prop) (R : MI → ML → Prop) : Prop :=
  (x2 = 0 →
  (∀ s108 : MI, s108 = st2 σ 29 21 ((σ 29 21) ||| 0) → (∀ y111 : Int32, y111 = x1 + 1 → (K7 y111 s108 τ)))) ∧
  (¬ x2 = 0 →
  (∀ s108 : MI, s108 = st2 σ 29 21 ((σ 29 21) ||| (1 <<< (x1 &&& 31))) → (∀ y111 : Int32, y111 = x1 + 1 → (K7 y111 s108 τ))))
def s_Mo_asks_0 (σ : MI) (τ : ML) (K7 : Int32 → MI → ML → Prop) (K19 : Int32 → Int32 → Int32 → MI → ML → Prop) (R : MI → ML → Prop) : Prop :=
  ∀ s2 : MI, s2 = st2 σ 29 21 0 → (K7 0 s2 τ)
def s_Mo_asks_7 (σ : MI) (τ : ML) (x1 : Int32) (K7 : Int32 → MI → ML → Prop) (K19 : Int32 → Int32 → Int32 → MI → ML → Prop) (R : MI → ML → Prop) : Prop :=
  ((σ 29 1) ≤ x1 →
  (R σ τ)) ∧
  (¬ (σ 29 1) ≤ x1 →
  (K19 x1 0 0 σ τ))
def s_Mo_asks_19 (σ : MI) (τ : ML) (x1 : Int32) (x2 : Int32) (x3 : Int32) (K7 : Int32 → MI → ML → Prop) (K19 : Int32 → Int32 → Int32 → MI → ML → Prop) (R : MI → ML → Prop) : Prop :=
  ((σ 29 10) ≤ x3 →
  (vp_in x1 4 ∧ ((x2 = 0 →
    (vp_in x1 4 ∧ (∀ s90 : MI, s90 = st2 σ 35 (Int32.toNatClampNeg x1) ((σ 35 (Int32.toNatClampNeg x1)) + 0) → (s_Mo_asks_91 s90 τ x1 x2 K7 K19 R)))) ∧
    (¬ x2 = 0 →
    (vp_in x1 4 ∧ (∀ s90 : MI, s90 = st2 σ 35 (Int32.toNatClampNeg x1) ((σ 35 (Int32.toNatClampNeg x1)) + 1) → (s_Mo_asks_91 s90 τ x1 x2 K7 K19 R))))))) ∧
  (¬ (σ 29 10) ≤ x3 →
  ((¬ x2 = 0 →
    (∀ y67 : Int32, y67 = x3 + 1 → (K19 x1 1 y67 σ τ))) ∧
    (x2 = 0 →
    (vp_in x1 4 ∧ (((σ 34 (Int32.toNatClampNeg x1)) = 4 →
      (∀ y67 : Int32, y67 = x3 + 1 → (K19 x1 1 y67 σ τ))) ∧
      (¬ (σ 34 (Int32.toNatClampNeg x1)) = 4 →
      (vp_in x1 4 ∧ ((¬ (σ 34 (Int32.toNatClampNeg x1)) = 3 →
        (∀ y67 : Int32, y67 = x3 + 1 → (K19 x1 0 y67 σ τ))) ∧
        ((σ 34 (Int32.toNatClampNeg x1)) = 3 →
        (vp_in x3 7 ∧ ((¬ (σ 37 (Int32.toNatClampNeg x3)) = 5 →
          (∀ y67 : Int32, y67 = x3 + 1 → (K19 x1 0 y67 σ τ))) ∧
          ((σ 37 (Int32.toNatClampNeg x3)) = 5 →
          (∀ y67 : Int32, y67 = x3 + 1 → (K19 x1 1 y67 σ τ))))))))))))))
set_option maxHeartbeats 4000000 in
set_option maxRecDepth 100000 in
theorem k_Mo_asks (l : Launch) (D : va_G) (ad : Nat → Nat) (ci cl : ClassId)
    (pre : MI → ML → Prop) (post : MI → ML → MI → ML → Prop)
    (I7 : MI → ML → Int32 → MI → ML → Prop) (m7 : MI → ML → Int32 → MI → ML → Nat)
    (I19 : MI → ML → Int32 → Int32 → Int32 → MI → ML → Prop) (m19 : MI → ML → Int32 → Int32 → Int32 → MI → ML → Nat)
    (v0 : ∀ (σ0 : MI) (τ0 : ML), pre σ0 τ0 → s_Mo_asks_0 σ0 τ0 (fun z0 σ9 τ9 => I7 σ0 τ0 z0 σ9 τ9) (fun z0 z1 z2 σ9 τ9 => I19 σ0 τ0 z0 z1 z2 σ9 τ9) (post σ0 τ0))
    (v7 : ∀ (σ0 : MI) (τ0 : ML) (x1 : Int32) (σ : MI) (τ : ML), I7 σ0 τ0 x1 σ τ → s_Mo_asks_7 σ τ x1 (fun z0 σ9 τ9 => I7 σ0 τ0 z0 σ9 τ9 ∧ m7 σ0 τ0 z0 σ9 τ9 < m7 σ0 τ0 x1 σ τ) (fun z0 z1 z2 σ9 τ9 => I19 σ0 τ0 z0 z1 z2 σ9 τ9 ∧ m19 σ0 τ0 z0 z1 z2 σ9 τ9 < m7 σ0 τ0 x1 σ τ) (post σ0 τ0))
    (v19 : ∀ (σ0 : MI) (τ0 : ML) (x1 : Int32) (x2 : Int32) (x3 : Int32) (σ : MI) (τ : ML), I19 σ0 τ0 x1 x2 x3 σ τ → s_Mo_asks_19 σ τ x1 x2 x3 (fun z0 σ9 τ9 => I7 σ0 τ0 z0 σ9 τ9 ∧ m7 σ0 τ0 z0 σ9 τ9 < m19 σ0 τ0 x1 x2 x3 σ τ) (fun z0 z1 z2 σ9 τ9 => I19 σ0 τ0 z0 z1 z2 σ9 τ9 ∧ m19 σ0 τ0 z0 z1 z2 σ9 τ9 < m19 σ0 τ0 x1 x2 x3 σ τ) (post σ0 τ0)) :
    ∀ (sz : Nat) (σ0 : MI) (τ0 : ML), pre σ0 τ0 → gMv l D (xw ad ci cl) (xt ci cl) (xa ad) y_Mo_asks w_Mo_asks rm_Mo_asks [.ref (ad 29)] sz σ0 τ0 (post σ0 τ0) := by
  intro sz σ0 τ0 hpre
  refine gk_ofWv (cc := b_Mo_asks) (maxL := 4) (ret := none) (by decide) rfl xa_ok (Nat.le_of_ble_eq_true rfl) ?_
  intro p e s m below meth c ls hx hb hr hlocks hml hown hts hK hP hD hS hl
  have hl : lv_has ls 4 [(0, .ref (ad 29))] := hl
  have hown : s.vm.findClass R_Mo = some m.cls := hown
  have hL : ∀ n : Nat, (∀ (x1 : Int32) (σ : MI) (τ : ML) (H : Heap) (locs : List Loc) (ls : Array Slot), m7 σ0 τ0 x1 σ τ < n → I7 σ0 τ0 x1 σ τ → va_P D classes ((xw ad ci cl) σ τ) H → va_D (gA (xa ad) s.heap.size) ((xw ad ci cl) σ τ) → va_S (gA (xa ad) s.heap.size) s.heap H locs → lv_has ls 4 [(0, .ref (ad 29)), (1, .int x1)] → W p l e rm_Mo_asks s m [.ref (ad 29)].toArray below meth c H locs 0 0 (gQv D (xw ad ci cl) (xt ci cl) (xa ad) below [.ref (ad 29)] s (post σ0 τ0)) (F0 m 7 ls [])) ∧
      (∀ (x1 : Int32) (x2 : Int32) (x3 : Int32) (σ : MI) (τ : ML) (H : Heap) (locs : List Loc) (ls : Array Slot), m19 σ0 τ0 x1 x2 x3 σ τ < n → I19 σ0 τ0 x1 x2 x3 σ τ → va_P D classes ((xw ad ci cl) σ τ) H → va_D (gA (xa ad) s.heap.size) ((xw ad ci cl) σ τ) → va_S (gA (xa ad) s.heap.size) s.heap H locs → lv_has ls 4 [(0, .ref (ad 29)), (1, .int x1), (2, .int x2), (3, .int x3)] → W p l e rm_Mo_asks s m [.ref (ad 29)].toArray below meth c H locs 0 0 (gQv D (xw ad ci cl) (xt ci cl) (xa ad) below [.ref (ad 29)] s (post σ0 τ0)) (F0 m 19 ls [])) := by
    intro n
    induction n with
    | zero => exact ⟨fun _ _ _ _ _ _ hn => absurd hn (Nat.not_lt_zero _), fun _ _ _ _ _ _ _ _ hn => absurd hn (Nat.not_lt_zero _)⟩
    | succ n ih =>
      refine ⟨?_, ?_⟩
      · intro x1 σ τ H locs ls hn hI hP hD hS hl
        have hv := v7 σ0 τ0 x1 σ τ hI
        unfold s_Mo_asks_7 at hv
        refine lv_iload_n hx hb d_Mo_asks_7 rfl (lv_at hl 1 rfl) ?_
        refine lv_aload_n hx hb d_Mo_asks_8 rfl (lv_at hl 0 rfl) ?_
        refine va_get (D := D) (ci := 7) (v := .int (σ 29 1)) (C := R_Mo) (T := F_Mo) (N := 24) hx hb hts iw_Mo hown hK hP 29 rfl rfl 1 (by decide) (hts _ t_w248) (fun _ h9 => h9) rfl d_Mo_asks_9 ?_
        refine lv_icmp_ge (tgt := 117) hx hb d_Mo_asks_12 (by decide) (fun hc => ?_) (fun hc => ?_)
        · replace hv := hv.1 hc
          exact gk_vret hx hb hr hlocks hK hP hD hS hv d_Mo_asks_117
        · replace hv := hv.2 hc
          refine lv_iconst (v := 0) hx hb d_Mo_asks_15 (by decide) ?_
          refine lv_istore_n (lv' := [(2, .int 0), (0, .ref (ad 29)), (1, .int x1)]) hx hb d_Mo_asks_16 rfl hl (by decide) rfl (fun ls hl => ?_)
          refine lv_iconst (v := 0) hx hb d_Mo_asks_17 (by decide) ?_
          refine lv_istore_n (lv' := [(3, .int 0), (2, .int 0), (0, .ref (ad 29)), (1, .int x1)]) hx hb d_Mo_asks_18 rfl hl (by decide) rfl (fun ls hl => ?_)
          obtain ⟨hI, hm⟩ := hv
          exact ih.2 x1 0 0 σ τ _ _ _ (Nat.lt_of_lt_of_le hm (Nat.le_of_lt_succ hn)) hI hP hD hS (lv_sub hl [2, 3, 1, 0] rfl)
      · intro x1 x2 x3 σ τ H locs ls hn hI hP hD hS hl
        have hv := v19 σ0 τ0 x1 x2 x3 σ τ hI
        unfold s_Mo_asks_19 at hv
        have j91 : ∀ (w1 : Int32) (w2 : Int32) (σ1 : MI) (τ1 : ML) (H : Heap) (locs : List Loc) (ls : Array Slot), s_Mo_asks_91 σ1 τ1 w1 w2 (fun z0 σ9 τ9 => I7 σ0 τ0 z0 σ9 τ9 ∧ m7 σ0 τ0 z0 σ9 τ9 < m19 σ0 τ0 x1 x2 x3 σ τ) (fun z0 z1 z2 σ9 τ9 => I19 σ0 τ0 z0 z1 z2 σ9 τ9 ∧ m19 σ0 τ0 z0 z1 z2 σ9 τ9 < m19 σ0 τ0 x1 x2 x3 σ τ) (post σ0 τ0) → va_P D classes ((xw ad ci cl) σ1 τ1) H → va_D (gA (xa ad) s.heap.size) ((xw ad ci cl) σ1 τ1) → va_S (gA (xa ad) s.heap.size) s.heap H locs → lv_has ls 4 [(0, .ref (ad 29)), (1, .int w1), (2, .int w2)] → W p l e rm_Mo_asks s m [.ref (ad 29)].toArray below meth c H locs 0 0 (gQv D (xw ad ci cl) (xt ci cl) (xa ad) below [.ref (ad 29)] s (post σ0 τ0)) (F0 m 91 ls []) := by
          intro w1 w2 σ1 τ1 H locs ls hv hP hD hS hl
          unfold s_Mo_asks_91 at hv
          refine lv_aload_n hx hb d_Mo_asks_91 rfl (lv_at hl 0 rfl) ?_
          refine lv_dup hx hb d_Mo_asks_92 rfl ?_
          refine va_get (D := D) (ci := 7) (v := .int (σ1 29 21)) (C := R_Mo) (T := F_Mo) (N := 24) hx hb hts iw_Mo hown hK hP 29 rfl rfl 21 (by decide) (hts _ t_w288) (fun _ h9 => h9) rfl d_Mo_asks_93 ?_
          refine lv_iload_n hx hb d_Mo_asks_96 rfl (lv_at hl 2 rfl) ?_
          refine lv_if_eq (tgt := 106) hx hb d_Mo_asks_97 (by decide) (fun hc => ?_) (fun hc => ?_)
          · replace hv := hv.1 hc
            refine lv_iconst (v := 0) hx hb d_Mo_asks_106 (by decide) ?_
            refine lv_ior hx hb d_Mo_asks_107 ?_
            refine va_put (D := D) (ci := 7) (v := .int ((σ1 29 21) ||| 0)) (ty := .int) (fs := [.int (σ1 29 0), .int (σ1 29 1), .ref (ad 30), .ref (ad 31), .ref (ad 32), .ref (ad 33), .ref (ad 34), .ref (ad 35), .int (σ1 29 8), .ref (ad 36), .int (σ1 29 10), .ref (ad 37), .ref (ad 38), .ref (ad 39), .ref (ad 40), .ref (ad 41), .ref (ad 42), .int (σ1 29 17), .int (σ1 29 18), .ref (ad 43), .ref (ad 44), .int (σ1 29 21), .ref (ad 45), .ref (ad 46)]) (C := R_Mo) (T := F_Mo) (N := 24) hx hb hts iw_Mo ty_Mo ty_Mo_ok nn_Mo hown hK hP hD hS 29 rfl rfl 21 (by decide) (hts _ t_w288) (fun _ h9 => h9) rfl (by decide +kernel) rfl rfl (Nat.le_of_ble_eq_true rfl) d_Mo_asks_108 (fun H locs hP hD hS => ?_)
            rw [xf_29_21] at hP hD
            obtain ⟨s108, es108⟩ : ∃ z : MI, z = st2 σ1 29 21 ((σ1 29 21) ||| 0) := ⟨_, rfl⟩
            rw [← es108] at hP hD
            replace hv := hv s108 es108
            obtain ⟨y111, ey111⟩ : ∃ z : Int32, z = w1 + 1 := ⟨_, rfl⟩
            replace hv := hv y111 ey111
            refine lv_iinc (v := y111) (lv' := [(1, .int y111), (0, .ref (ad 29)), (2, .int w2)]) hx hb d_Mo_asks_111 hl (k := 1) rfl (by rw [ey111]; rfl) (by decide) rfl (fun ls hl => ?_)
            refine lv_goto (tgt := 7) hx hb d_Mo_asks_114 (by decide) ?_
            obtain ⟨hI, hm⟩ := hv
            exact ih.1 y111 s108 τ1 _ _ _ (Nat.lt_of_lt_of_le hm (Nat.le_of_lt_succ hn)) hI hP hD hS (lv_sub hl [1, 0] rfl)
          · replace hv := hv.2 hc
            refine lv_iconst (v := 1) hx hb d_Mo_asks_100 (by decide) ?_
            refine lv_iload_n hx hb d_Mo_asks_101 rfl (lv_at hl 1 rfl) ?_
            refine lv_ishl hx hb d_Mo_asks_102 ?_
            refine lv_goto (tgt := 107) hx hb d_Mo_asks_103 (by decide) ?_
            refine lv_ior hx hb d_Mo_asks_107 ?_
            refine va_put (D := D) (ci := 7) (v := .int ((σ1 29 21) ||| (1 <<< (w1 &&& 31)))) (ty := .int) (fs := [.int (σ1 29 0), .int (σ1 29 1), .ref (ad 30), .ref (ad 31), .ref (ad 32), .ref (ad 33), .ref (ad 34), .ref (ad 35), .int (σ1 29 8), .ref (ad 36), .int (σ1 29 10), .ref (ad 37), .ref (ad 38), .ref (ad 39), .ref (ad 40), .ref (ad 41), .ref (ad 42), .int (σ1 29 17), .int (σ1 29 18), .ref (ad 43), .ref (ad 44), .int (σ1 29 21), .ref (ad 45), .ref (ad 46)]) (C := R_Mo) (T := F_Mo) (N := 24) hx hb hts iw_Mo ty_Mo ty_Mo_ok nn_Mo hown hK hP hD hS 29 rfl rfl 21 (by decide) (hts _ t_w288) (fun _ h9 => h9) rfl (by decide +kernel) rfl rfl (Nat.le_of_ble_eq_true rfl) d_Mo_asks_108 (fun H locs hP hD hS => ?_)
            rw [xf_29_21] at hP hD
            obtain ⟨s108, es108⟩ : ∃ z : MI, z = st2 σ1 29 21 ((σ1 29 21) ||| (1 <<< (w1 &&& 31))) := ⟨_, rfl⟩
            rw [← es108] at hP hD
            replace hv := hv s108 es108
            obtain ⟨y111, ey111⟩ : ∃ z : Int32, z = w1 + 1 := ⟨_, rfl⟩
            replace hv := hv y111 ey111
            refine lv_iinc (v := y111) (lv' := [(1, .int y111), (0, .ref (ad 29)), (2, .int w2)]) hx hb d_Mo_asks_111 hl (k := 1) rfl (by rw [ey111]; rfl) (by decide) rfl (fun ls hl => ?_)
            refine lv_goto (tgt := 7) hx hb d_Mo_asks_114 (by decide) ?_
            obtain ⟨hI, hm⟩ := hv
            exact ih.1 y111 s108 τ1 _ _ _ (Nat.lt_of_lt_of_le hm (Nat.le_of_lt_succ hn)) hI hP hD hS (lv_sub hl [1, 0] rfl)
        refine lv_iload_n hx hb d_Mo_asks_19 rfl (lv_at hl 3 rfl) ?_
        refine lv_aload_n hx hb d_Mo_asks_20 rfl (lv_at hl 0 rfl) ?_
        refine va_get (D := D) (ci := 7) (v := .int (σ 29 10)) (C := R_Mo) (T := F_Mo) (N := 24) hx hb hts iw_Mo hown hK hP 29 rfl rfl 10 (by decide) (hts _ t_w249) (fun _ h9 => h9) rfl d_Mo_asks_21 ?_
        refine lv_icmp_ge (tgt := 73) hx hb d_Mo_asks_24 (by decide) (fun hc => ?_) (fun hc => ?_)
        · replace hv := hv.1 hc
          refine lv_aload_n hx hb d_Mo_asks_73 rfl (lv_at hl 0 rfl) ?_
          refine va_get (D := D) (ci := 7) (v := .ref (ad 35)) (C := R_Mo) (T := F_Mo) (N := 24) hx hb hts iw_Mo hown hK hP 29 rfl rfl 7 (by decide) (hts _ t_w289) (fun _ h9 => h9) rfl d_Mo_asks_74 ?_
          refine lv_iload_n hx hb d_Mo_asks_77 rfl (lv_at hl 1 rfl) ?_
          refine lv_dup2_11 hx hb d_Mo_asks_78 rfl rfl ?_
          obtain ⟨hi, hv⟩ := hv
          refine va_iald hx hb hK hP 35 0 rfl rfl hi d_Mo_asks_79 ?_
          refine lv_iload_n hx hb d_Mo_asks_80 rfl (lv_at hl 2 rfl) ?_
          refine lv_if_eq (tgt := 88) hx hb d_Mo_asks_81 (by decide) (fun hc => ?_) (fun hc => ?_)
          · replace hv := hv.1 hc
            refine lv_iconst (v := 0) hx hb d_Mo_asks_88 (by decide) ?_
            refine lv_iadd hx hb d_Mo_asks_89 ?_
            obtain ⟨hi, hv⟩ := hv
            refine va_iast hx hb hK hP hD hS 35 0 rfl rfl hi d_Mo_asks_90 (fun H locs hP hD hS => ?_)
            rw [xa_35] at hP hD
            obtain ⟨s90, es90⟩ : ∃ z : MI, z = st2 σ 35 (Int32.toNatClampNeg x1) ((σ 35 (Int32.toNatClampNeg x1)) + 0) := ⟨_, rfl⟩
            rw [← es90] at hP hD
            replace hv := hv s90 es90
            exact j91 x1 x2 s90 τ _ _ _ hv hP hD hS (lv_sub hl [0, 1, 2] rfl)
          · replace hv := hv.2 hc
            refine lv_iconst (v := 1) hx hb d_Mo_asks_84 (by decide) ?_
            refine lv_goto (tgt := 89) hx hb d_Mo_asks_85 (by decide) ?_
            refine lv_iadd hx hb d_Mo_asks_89 ?_
            obtain ⟨hi, hv⟩ := hv
            refine va_iast hx hb hK hP hD hS 35 0 rfl rfl hi d_Mo_asks_90 (fun H locs hP hD hS => ?_)
            rw [xa_35] at hP hD
            obtain ⟨s90, es90⟩ : ∃ z : MI, z = st2 σ 35 (Int32.toNatClampNeg x1) ((σ 35 (Int32.toNatClampNeg x1)) + 1) := ⟨_, rfl⟩
            rw [← es90] at hP hD
            replace hv := hv s90 es90
            exact j91 x1 x2 s90 τ _ _ _ hv hP hD hS (lv_sub hl [0, 1, 2] rfl)
        · replace hv := hv.2 hc
          refine lv_iload_n hx hb d_Mo_asks_27 rfl (lv_at hl 2 rfl) ?_
          refine lv_if_ne (tgt := 61) hx hb d_Mo_asks_28 (by decide) (fun hc => ?_) (fun hc => ?_)
          · replace hv := hv.1 hc
            refine lv_iconst (v := 1) hx hb d_Mo_asks_61 (by decide) ?_
            refine lv_goto (tgt := 66) hx hb d_Mo_asks_62 (by decide) ?_
            refine lv_istore_n (lv' := [(2, .int 1), (0, .ref (ad 29)), (1, .int x1), (3, .int x3)]) hx hb d_Mo_asks_66 rfl hl (by decide) rfl (fun ls hl => ?_)
            obtain ⟨y67, ey67⟩ : ∃ z : Int32, z = x3 + 1 := ⟨_, rfl⟩
            replace hv := hv y67 ey67
            refine lv_iinc (v := y67) (lv' := [(3, .int y67), (2, .int 1), (0, .ref (ad 29)), (1, .int x1)]) hx hb d_Mo_asks_67 hl (k := 3) rfl (by rw [ey67]; rfl) (by decide) rfl (fun ls hl => ?_)
            refine lv_goto (tgt := 19) hx hb d_Mo_asks_70 (by decide) ?_
            obtain ⟨hI, hm⟩ := hv
            exact ih.2 x1 1 y67 σ τ _ _ _ (Nat.lt_of_lt_of_le hm (Nat.le_of_lt_succ hn)) hI hP hD hS (lv_sub hl [2, 3, 1, 0] rfl)
          · replace hv := hv.2 hc
            refine lv_aload_n hx hb d_Mo_asks_31 rfl (lv_at hl 0 rfl) ?_
            refine va_get (D := D) (ci := 7) (v := .ref (ad 34)) (C := R_Mo) (T := F_Mo) (N := 24) hx hb hts iw_Mo hown hK hP 29 rfl rfl 6 (by decide) (hts _ t_w282) (fun _ h9 => h9) rfl d_Mo_asks_32 ?_
            refine lv_iload_n hx hb d_Mo_asks_35 rfl (lv_at hl 1 rfl) ?_
            obtain ⟨hi, hv⟩ := hv
            refine va_iald hx hb hK hP 34 0 rfl rfl hi d_Mo_asks_36 ?_
            refine lv_iconst (v := 4) hx hb d_Mo_asks_37 (by decide) ?_
            refine lv_icmp_eq (tgt := 61) hx hb d_Mo_asks_38 (by decide) (fun hc => ?_) (fun hc => ?_)
            · replace hv := hv.1 hc
              refine lv_iconst (v := 1) hx hb d_Mo_asks_61 (by decide) ?_
              refine lv_goto (tgt := 66) hx hb d_Mo_asks_62 (by decide) ?_
              refine lv_istore_n (lv' := [(2, .int 1), (0, .ref (ad 29)), (1, .int x1), (3, .int x3)]) hx hb d_Mo_asks_66 rfl hl (by decide) rfl (fun ls hl => ?_)
              obtain ⟨y67, ey67⟩ : ∃ z : Int32, z = x3 + 1 := ⟨_, rfl⟩
              replace hv := hv y67 ey67
              refine lv_iinc (v := y67) (lv' := [(3, .int y67), (2, .int 1), (0, .ref (ad 29)), (1, .int x1)]) hx hb d_Mo_asks_67 hl (k := 3) rfl (by rw [ey67]; rfl) (by decide) rfl (fun ls hl => ?_)
              refine lv_goto (tgt := 19) hx hb d_Mo_asks_70 (by decide) ?_
              obtain ⟨hI, hm⟩ := hv
              exact ih.2 x1 1 y67 σ τ _ _ _ (Nat.lt_of_lt_of_le hm (Nat.le_of_lt_succ hn)) hI hP hD hS (lv_sub hl [2, 3, 1, 0] rfl)
            · replace hv := hv.2 hc
              refine lv_aload_n hx hb d_Mo_asks_41 rfl (lv_at hl 0 rfl) ?_
              refine va_get (D := D) (ci := 7) (v := .ref (ad 34)) (C := R_Mo) (T := F_Mo) (N := 24) hx hb hts iw_Mo hown hK hP 29 rfl rfl 6 (by decide) (hts _ t_w282) (fun _ h9 => h9) rfl d_Mo_asks_42 ?_
              refine lv_iload_n hx hb d_Mo_asks_45 rfl (lv_at hl 1 rfl) ?_
              obtain ⟨hi, hv⟩ := hv
              refine va_iald hx hb hK hP 34 0 rfl rfl hi d_Mo_asks_46 ?_
              refine lv_iconst (v := 3) hx hb d_Mo_asks_47 (by decide) ?_
              refine lv_icmp_ne (tgt := 65) hx hb d_Mo_asks_48 (by decide) (fun hc => ?_) (fun hc => ?_)
              · replace hv := hv.1 hc
                refine lv_iconst (v := 0) hx hb d_Mo_asks_65 (by decide) ?_
                refine lv_istore_n (lv' := [(2, .int 0), (0, .ref (ad 29)), (1, .int x1), (3, .int x3)]) hx hb d_Mo_asks_66 rfl hl (by decide) rfl (fun ls hl => ?_)
                obtain ⟨y67, ey67⟩ : ∃ z : Int32, z = x3 + 1 := ⟨_, rfl⟩
                replace hv := hv y67 ey67
                refine lv_iinc (v := y67) (lv' := [(3, .int y67), (2, .int 0), (0, .ref (ad 29)), (1, .int x1)]) hx hb d_Mo_asks_67 hl (k := 3) rfl (by rw [ey67]; rfl) (by decide) rfl (fun ls hl => ?_)
                refine lv_goto (tgt := 19) hx hb d_Mo_asks_70 (by decide) ?_
                obtain ⟨hI, hm⟩ := hv
                exact ih.2 x1 0 y67 σ τ _ _ _ (Nat.lt_of_lt_of_le hm (Nat.le_of_lt_succ hn)) hI hP hD hS (lv_sub hl [2, 3, 1, 0] rfl)
              · replace hv := hv.2 hc
                refine lv_aload_n hx hb d_Mo_asks_51 rfl (lv_at hl 0 rfl) ?_
                refine va_get (D := D) (ci := 7) (v := .ref (ad 37)) (C := R_Mo) (T := F_Mo) (N := 24) hx hb hts iw_Mo hown hK hP 29 rfl rfl 11 (by decide) (hts _ t_w271) (fun _ h9 => h9) rfl d_Mo_asks_52 ?_
                refine lv_iload_n hx hb d_Mo_asks_55 rfl (lv_at hl 3 rfl) ?_
                obtain ⟨hi, hv⟩ := hv
                refine va_iald hx hb hK hP 37 0 rfl rfl hi d_Mo_asks_56 ?_
                refine lv_iconst (v := 5) hx hb d_Mo_asks_57 (by decide) ?_
                refine lv_icmp_ne (tgt := 65) hx hb d_Mo_asks_58 (by decide) (fun hc => ?_) (fun hc => ?_)
                · replace hv := hv.1 hc
                  refine lv_iconst (v := 0) hx hb d_Mo_asks_65 (by decide) ?_
                  refine lv_istore_n (lv' := [(2, .int 0), (0, .ref (ad 29)), (1, .int x1), (3, .int x3)]) hx hb d_Mo_asks_66 rfl hl (by decide) rfl (fun ls hl => ?_)
                  obtain ⟨y67, ey67⟩ : ∃ z : Int32, z = x3 + 1 := ⟨_, rfl⟩
                  replace hv := hv y67 ey67
                  refine lv_iinc (v := y67) (lv' := [(3, .int y67), (2, .int 0), (0, .ref (ad 29)), (1, .int x1)]) hx hb d_Mo_asks_67 hl (k := 3) rfl (by rw [ey67]; rfl) (by decide) rfl (fun ls hl => ?_)
                  refine lv_goto (tgt := 19) hx hb d_Mo_asks_70 (by decide) ?_
                  obtain ⟨hI, hm⟩ := hv
                  exact ih.2 x1 0 y67 σ τ _ _ _ (Nat.lt_of_lt_of_le hm (Nat.le_of_lt_succ hn)) hI hP hD hS (lv_sub hl [2, 3, 1, 0] rfl)
                · replace hv := hv.2 hc
                  refine lv_iconst (v := 1) hx hb d_Mo_asks_61 (by decide) ?_
                  refine lv_goto (tgt := 66) hx hb d_Mo_asks_62 (by decide) ?_
                  refine lv_istore_n (lv' := [(2, .int 1), (0, .ref (ad 29)), (1, .int x1), (3, .int x3)]) hx hb d_Mo_asks_66 rfl hl (by decide) rfl (fun ls hl => ?_)
                  obtain ⟨y67, ey67⟩ : ∃ z : Int32, z = x3 + 1 := ⟨_, rfl⟩
                  replace hv := hv y67 ey67
                  refine lv_iinc (v := y67) (lv' := [(3, .int y67), (2, .int 1), (0, .ref (ad 29)), (1, .int x1)]) hx hb d_Mo_asks_67 hl (k := 3) rfl (by rw [ey67]; rfl) (by decide) rfl (fun ls hl => ?_)
                  refine lv_goto (tgt := 19) hx hb d_Mo_asks_70 (by decide) ?_
                  obtain ⟨hI, hm⟩ := hv
                  exact ih.2 x1 1 y67 σ τ _ _ _ (Nat.lt_of_lt_of_le hm (Nat.le_of_lt_succ hn)) hI hP hD hS (lv_sub hl [2, 3, 1, 0] rfl)
  have hv := v0 σ0 τ0 hpre
  unfold s_Mo_asks_0 at hv
  refine lv_aload_n hx hb d_Mo_asks_0 rfl (lv_at hl 0 rfl) ?_
  refine lv_iconst (v := 0) hx hb d_Mo_asks_1 (by decide) ?_
  refine va_put (D := D) (ci := 7) (v := .int 0) (ty := .int) (fs := [.int (σ0 29 0), .int (σ0 29 1), .ref (ad 30), .ref (ad 31), .ref (ad 32), .ref (ad 33), .ref (ad 34), .ref (ad 35), .int (σ0 29 8), .ref (ad 36), .int (σ0 29 10), .ref (ad 37), .ref (ad 38), .ref (ad 39), .ref (ad 40), .ref (ad 41), .ref (ad 42), .int (σ0 29 17), .int (σ0 29 18), .ref (ad 43), .ref (ad 44), .int (σ0 29 21), .ref (ad 45), .ref (ad 46)]) (C := R_Mo) (T := F_Mo) (N := 24) hx hb hts iw_Mo ty_Mo ty_Mo_ok nn_Mo hown hK hP hD hS 29 rfl rfl 21 (by decide) (hts _ t_w288) (fun _ h9 => h9) rfl (by decide +kernel) rfl rfl (Nat.le_of_ble_eq_true rfl) d_Mo_asks_2 (fun H locs hP hD hS => ?_)
  rw [xf_29_21] at hP hD
  obtain ⟨s2, es2⟩ : ∃ z : MI, z = st2 σ0 29 21 0 := ⟨_, rfl⟩
  rw [← es2] at hP hD
  replace hv := hv s2 es2
  refine lv_iconst (v := 0) hx hb d_Mo_asks_5 (by decide) ?_
  refine lv_istore_n (lv' := [(1, .int 0), (0, .ref (ad 29))]) hx hb d_Mo_asks_6 rfl hl (by decide) rfl (fun ls hl => ?_)
  exact (hL _).1 0 s2 τ0 _ _ _ (Nat.lt_succ_self _) hv hP hD hS (lv_sub hl [1, 0] rfl)
theorem d_Mo_triedOf_0 : decode b_Mo_triedOf 0 = .ok (.iconst 0, 1) := by decide +kernel
theorem d_Mo_triedOf_1 : decode b_Mo_triedOf 1 = .ok (.istore_n 2, 1) := by decide +kernel
theorem d_Mo_triedOf_2 : decode b_Mo_triedOf 2 = .ok (.iconst 0, 1) := by decide +kernel
theorem d_Mo_triedOf_3 : decode b_Mo_triedOf 3 = .ok (.istore_n 3, 1) := by decide +kernel
theorem d_Mo_triedOf_4 : decode b_Mo_triedOf 4 = .ok (.iload_n 3, 1) := by decide +kernel
theorem d_Mo_triedOf_5 : decode b_Mo_triedOf 5 = .ok (.aload_n 0, 1) := by decide +kernel
theorem d_Mo_triedOf_6 : decode b_Mo_triedOf 6 = .ok (.getfield 68, 3) := by decide +kernel
theorem d_Mo_triedOf_9 : decode b_Mo_triedOf 9 = .ok (.if_icmp .ge 29, 3) := by decide +kernel
theorem d_Mo_triedOf_12 : decode b_Mo_triedOf 12 = .ok (.iload_n 2, 1) := by decide +kernel
theorem d_Mo_triedOf_13 : decode b_Mo_triedOf 13 = .ok (.aload_n 0, 1) := by decide +kernel
theorem d_Mo_triedOf_14 : decode b_Mo_triedOf 14 = .ok (.getfield 58, 3) := by decide +kernel
theorem d_Mo_triedOf_17 : decode b_Mo_triedOf 17 = .ok (.iload_n 3, 1) := by decide +kernel
theorem d_Mo_triedOf_18 : decode b_Mo_triedOf 18 = .ok (.iaload, 1) := by decide +kernel
theorem d_Mo_triedOf_19 : decode b_Mo_triedOf 19 = .ok (.iload_n 1, 1) := by decide +kernel
theorem d_Mo_triedOf_20 : decode b_Mo_triedOf 20 = .ok (.if_icmp .ne 9, 3) := by decide +kernel
theorem d_Mo_triedOf_23 : decode b_Mo_triedOf 23 = .ok (.iconst 1, 1) := by decide +kernel
theorem d_Mo_triedOf_24 : decode b_Mo_triedOf 24 = .ok (.iload_n 3, 1) := by decide +kernel
theorem d_Mo_triedOf_25 : decode b_Mo_triedOf 25 = .ok (.ishl, 1) := by decide +kernel
theorem d_Mo_triedOf_26 : decode b_Mo_triedOf 26 = .ok (.goto 4, 3) := by decide +kernel
theorem d_Mo_triedOf_29 : decode b_Mo_triedOf 29 = .ok (.iconst 0, 1) := by decide +kernel
theorem d_Mo_triedOf_30 : decode b_Mo_triedOf 30 = .ok (.ior, 1) := by decide +kernel
theorem d_Mo_triedOf_31 : decode b_Mo_triedOf 31 = .ok (.istore_n 2, 1) := by decide +kernel
theorem d_Mo_triedOf_32 : decode b_Mo_triedOf 32 = .ok (.iinc 3 1, 3) := by decide +kernel
theorem d_Mo_triedOf_35 : decode b_Mo_triedOf 35 = .ok (.goto (-31), 3) := by decide +kernel
theorem d_Mo_triedOf_38 : decode b_Mo_triedOf 38 = .ok (.iload_n 2, 1) := by decide +kernel
theorem d_Mo_triedOf_39 : decode b_Mo_triedOf 39 = .ok (.ireturn, 1) := by decide +kernel
def s_Mo_triedOf_0 (σ : MI) (τ : ML) (a1 : Int32) (K4 : Int32 → Int32 → Int32 → MI → ML → Prop) (R : Int32 → MI → ML → Prop) : Prop :=
  K4 a1 0 0 σ τ
def s_Mo_triedOf_4 (σ : MI) (τ : ML) (x1 : Int32) (x2 : Int32) (x3 : Int32) (K4 : Int32 → Int32 → Int32 → MI → ML → Prop) (R : Int32 → MI → ML → Prop) : Prop :=
  ((σ 29 10) ≤ x3 →
  (R x2 σ τ)) ∧
  (¬ (σ 29 10) ≤ x3 →
  (vp_in x3 7 ∧ ((¬ (σ 46 (Int32.toNatClampNeg x3)) = x1 →
    (∀ y31 : Int32, y31 = x2 ||| 0 → (∀ y32 : Int32, y32 = x3 + 1 → (K4 x1 y31 y32 σ τ)))) ∧
    ((σ 46 (Int32.toNatClampNeg x3)) = x1 →
    (∀ y31 : Int32, y31 = x2 ||| (1 <<< (x3 &&& 31)) → (∀ y32 : Int32, y32 = x3 + 1 → (K4 x1 y31 y32 σ τ)))))))
set_option maxHeartbeats 4000000 in
set_option maxRecDepth 100000 in
theorem k_Mo_triedOf (l : Launch) (D : va_G) (ad : Nat → Nat) (ci cl : ClassId)
    (pre : MI → ML → Int32 → Prop) (post : MI → ML → Int32 → Int32 → MI → ML → Prop)
    (I4 : MI → ML → Int32 → Int32 → Int32 → Int32 → MI → ML → Prop) (m4 : MI → ML → Int32 → Int32 → Int32 → Int32 → MI → ML → Nat)
    (v0 : ∀ (σ0 : MI) (τ0 : ML) (a1 : Int32), pre σ0 τ0 a1 → s_Mo_triedOf_0 σ0 τ0 a1 (fun z0 z1 z2 σ9 τ9 => I4 σ0 τ0 a1 z0 z1 z2 σ9 τ9) (post σ0 τ0 a1))
    (v4 : ∀ (σ0 : MI) (τ0 : ML) (a1 : Int32) (x1 : Int32) (x2 : Int32) (x3 : Int32) (σ : MI) (τ : ML), I4 σ0 τ0 a1 x1 x2 x3 σ τ → s_Mo_triedOf_4 σ τ x1 x2 x3 (fun z0 z1 z2 σ9 τ9 => I4 σ0 τ0 a1 z0 z1 z2 σ9 τ9 ∧ m4 σ0 τ0 a1 z0 z1 z2 σ9 τ9 < m4 σ0 τ0 a1 x1 x2 x3 σ τ) (post σ0 τ0 a1)) :
    ∀ (sz : Nat) (σ0 : MI) (τ0 : ML) (a1 : Int32), pre σ0 τ0 a1 → gMi l D (xw ad ci cl) (xt ci cl) (xa ad) y_Mo_triedOf w_Mo_triedOf rm_Mo_triedOf [.ref (ad 29), .int a1] sz σ0 τ0 (post σ0 τ0 a1) := by
  intro sz σ0 τ0 a1 hpre
  refine gk_ofWi (cc := b_Mo_triedOf) (maxL := 4) (ret := (some .int)) (by decide) rfl xa_ok (Nat.le_of_ble_eq_true rfl) ?_
  intro p e s m below meth c ls hx hb hr hlocks hml hown hts hK hP hD hS hl
  have hl : lv_has ls 4 [(0, .ref (ad 29)), (1, .int a1)] := hl
  have hown : s.vm.findClass R_Mo = some m.cls := hown
  have hL : ∀ n : Nat, (∀ (x1 : Int32) (x2 : Int32) (x3 : Int32) (σ : MI) (τ : ML) (H : Heap) (locs : List Loc) (ls : Array Slot), m4 σ0 τ0 a1 x1 x2 x3 σ τ < n → I4 σ0 τ0 a1 x1 x2 x3 σ τ → va_P D classes ((xw ad ci cl) σ τ) H → va_D (gA (xa ad) s.heap.size) ((xw ad ci cl) σ τ) → va_S (gA (xa ad) s.heap.size) s.heap H locs → lv_has ls 4 [(0, .ref (ad 29)), (1, .int x1), (2, .int x2), (3, .int x3)] → W p l e rm_Mo_triedOf s m [.ref (ad 29), .int a1].toArray below meth c H locs 0 0 (gQi D (xw ad ci cl) (xt ci cl) (xa ad) below [.ref (ad 29), .int a1] s (post σ0 τ0 a1)) (F0 m 4 ls [])) := by
    intro n
    induction n with
    | zero => exact fun _ _ _ _ _ _ _ _ hn => absurd hn (Nat.not_lt_zero _)
    | succ n ih =>
      · intro x1 x2 x3 σ τ H locs ls hn hI hP hD hS hl
        have hv := v4 σ0 τ0 a1 x1 x2 x3 σ τ hI
        unfold s_Mo_triedOf_4 at hv
        refine lv_iload_n hx hb d_Mo_triedOf_4 rfl (lv_at hl 3 rfl) ?_
        refine lv_aload_n hx hb d_Mo_triedOf_5 rfl (lv_at hl 0 rfl) ?_
        refine va_get (D := D) (ci := 7) (v := .int (σ 29 10)) (C := R_Mo) (T := F_Mo) (N := 24) hx hb hts iw_Mo hown hK hP 29 rfl rfl 10 (by decide) (hts _ t_w249) (fun _ h9 => h9) rfl d_Mo_triedOf_6 ?_
        refine lv_icmp_ge (tgt := 38) hx hb d_Mo_triedOf_9 (by decide) (fun hc => ?_) (fun hc => ?_)
        · replace hv := hv.1 hc
          refine lv_iload_n hx hb d_Mo_triedOf_38 rfl (lv_at hl 2 rfl) ?_
          exact gk_iret hx hb hr hlocks hK hP hD hS hv d_Mo_triedOf_39
        · replace hv := hv.2 hc
          refine lv_iload_n hx hb d_Mo_triedOf_12 rfl (lv_at hl 2 rfl) ?_
          refine lv_aload_n hx hb d_Mo_triedOf_13 rfl (lv_at hl 0 rfl) ?_
          refine va_get (D := D) (ci := 7) (v := .ref (ad 46)) (C := R_Mo) (T := F_Mo) (N := 24) hx hb hts iw_Mo hown hK hP 29 rfl rfl 23 (by decide) (hts _ t_w290) (fun _ h9 => h9) rfl d_Mo_triedOf_14 ?_
          refine lv_iload_n hx hb d_Mo_triedOf_17 rfl (lv_at hl 3 rfl) ?_
          obtain ⟨hi, hv⟩ := hv
          refine va_iald hx hb hK hP 46 0 rfl rfl hi d_Mo_triedOf_18 ?_
          refine lv_iload_n hx hb d_Mo_triedOf_19 rfl (lv_at hl 1 rfl) ?_
          refine lv_icmp_ne (tgt := 29) hx hb d_Mo_triedOf_20 (by decide) (fun hc => ?_) (fun hc => ?_)
          · replace hv := hv.1 hc
            refine lv_iconst (v := 0) hx hb d_Mo_triedOf_29 (by decide) ?_
            refine lv_ior hx hb d_Mo_triedOf_30 ?_
            refine lv_topi (fun y31 ey31 => ?_)
            replace hv := hv y31 ey31
            refine lv_istore_n (lv' := [(2, .int y31), (0, .ref (ad 29)), (1, .int x1), (3, .int x3)]) hx hb d_Mo_triedOf_31 rfl hl (by decide) rfl (fun ls hl => ?_)
            obtain ⟨y32, ey32⟩ : ∃ z : Int32, z = x3 + 1 := ⟨_, rfl⟩
            replace hv := hv y32 ey32
            refine lv_iinc (v := y32) (lv' := [(3, .int y32), (2, .int y31), (0, .ref (ad 29)), (1, .int x1)]) hx hb d_Mo_triedOf_32 hl (k := 3) rfl (by rw [ey32]; rfl) (by decide) rfl (fun ls hl => ?_)
            refine lv_goto (tgt := 4) hx hb d_Mo_triedOf_35 (by decide) ?_
            obtain ⟨hI, hm⟩ := hv
            exact ih x1 y31 y32 σ τ _ _ _ (Nat.lt_of_lt_of_le hm (Nat.le_of_lt_succ hn)) hI hP hD hS (lv_sub hl [2, 3, 1, 0] rfl)
          · replace hv := hv.2 hc
            refine lv_iconst (v := 1) hx hb d_Mo_triedOf_23 (by decide) ?_
            refine lv_iload_n hx hb d_Mo_triedOf_24 rfl (lv_at hl 3 rfl) ?_
            refine lv_ishl hx hb d_Mo_triedOf_25 ?_
            refine lv_goto (tgt := 30) hx hb d_Mo_triedOf_26 (by decide) ?_
            refine lv_ior hx hb d_Mo_triedOf_30 ?_
            refine lv_topi (fun y31 ey31 => ?_)
            replace hv := hv y31 ey31
            refine lv_istore_n (lv' := [(2, .int y31), (0, .ref (ad 29)), (1, .int x1), (3, .int x3)]) hx hb d_Mo_triedOf_31 rfl hl (by decide) rfl (fun ls hl => ?_)
            obtain ⟨y32, ey32⟩ : ∃ z : Int32, z = x3 + 1 := ⟨_, rfl⟩
            replace hv := hv y32 ey32
            refine lv_iinc (v := y32) (lv' := [(3, .int y32), (2, .int y31), (0, .ref (ad 29)), (1, .int x1)]) hx hb d_Mo_triedOf_32 hl (k := 3) rfl (by rw [ey32]; rfl) (by decide) rfl (fun ls hl => ?_)
            refine lv_goto (tgt := 4) hx hb d_Mo_triedOf_35 (by decide) ?_
            obtain ⟨hI, hm⟩ := hv
            exact ih x1 y31 y32 σ τ _ _ _ (Nat.lt_of_lt_of_le hm (Nat.le_of_lt_succ hn)) hI hP hD hS (lv_sub hl [2, 3, 1, 0] rfl)
  have hv := v0 σ0 τ0 a1 hpre
  unfold s_Mo_triedOf_0 at hv
  refine lv_iconst (v := 0) hx hb d_Mo_triedOf_0 (by decide) ?_
  refine lv_istore_n (lv' := [(2, .int 0), (0, .ref (ad 29)), (1, .int a1)]) hx hb d_Mo_triedOf_1 rfl hl (by decide) rfl (fun ls hl => ?_)
  refine lv_iconst (v := 0) hx hb d_Mo_triedOf_2 (by decide) ?_
  refine lv_istore_n (lv' := [(3, .int 0), (2, .int 0), (0, .ref (ad 29)), (1, .int a1)]) hx hb d_Mo_triedOf_3 rfl hl (by decide) rfl (fun ls hl => ?_)
  exact (hL _) a1 0 0 σ0 τ0 _ _ _ (Nat.lt_succ_self _) hv hP hD hS (lv_sub hl [2, 3, 1, 0] rfl)
theorem d_Mo_triedCost_0 : decode b_Mo_triedCost 0 = .ok (.iconst 0, 1) := by decide +kernel
theorem d_Mo_triedCost_1 : decode b_Mo_triedCost 1 = .ok (.istore_n 1, 1) := by decide +kernel
theorem d_Mo_triedCost_2 : decode b_Mo_triedCost 2 = .ok (.iconst 0, 1) := by decide +kernel
theorem d_Mo_triedCost_3 : decode b_Mo_triedCost 3 = .ok (.istore_n 2, 1) := by decide +kernel
theorem d_Mo_triedCost_4 : decode b_Mo_triedCost 4 = .ok (.iload_n 2, 1) := by decide +kernel
theorem d_Mo_triedCost_5 : decode b_Mo_triedCost 5 = .ok (.aload_n 0, 1) := by decide +kernel
theorem d_Mo_triedCost_6 : decode b_Mo_triedCost 6 = .ok (.getfield 65, 3) := by decide +kernel
theorem d_Mo_triedCost_9 : decode b_Mo_triedCost 9 = .ok (.if_icmp .ge 47, 3) := by decide +kernel
theorem d_Mo_triedCost_12 : decode b_Mo_triedCost 12 = .ok (.iload_n 1, 1) := by decide +kernel
theorem d_Mo_triedCost_13 : decode b_Mo_triedCost 13 = .ok (.ldc 104, 2) := by decide +kernel
theorem d_Mo_triedCost_15 : decode b_Mo_triedCost 15 = .ok (.if_icmp .ge 41, 3) := by decide +kernel
theorem d_Mo_triedCost_18 : decode b_Mo_triedCost 18 = .ok (.aload_n 0, 1) := by decide +kernel
theorem d_Mo_triedCost_19 : decode b_Mo_triedCost 19 = .ok (.getfield 55, 3) := by decide +kernel
theorem d_Mo_triedCost_22 : decode b_Mo_triedCost 22 = .ok (.sipush 128, 3) := by decide +kernel
theorem d_Mo_triedCost_25 : decode b_Mo_triedCost 25 = .ok (.iload_n 2, 1) := by decide +kernel
theorem d_Mo_triedCost_26 : decode b_Mo_triedCost 26 = .ok (.imul, 1) := by decide +kernel
theorem d_Mo_triedCost_27 : decode b_Mo_triedCost 27 = .ok (.aload_n 0, 1) := by decide +kernel
theorem d_Mo_triedCost_28 : decode b_Mo_triedCost 28 = .ok (.iload_n 2, 1) := by decide +kernel
theorem d_Mo_triedCost_29 : decode b_Mo_triedCost 29 = .ok (.invokevirtual 108, 3) := by decide +kernel
theorem d_Mo_triedCost_32 : decode b_Mo_triedCost 32 = .ok (.iadd, 1) := by decide +kernel
theorem d_Mo_triedCost_33 : decode b_Mo_triedCost 33 = .ok (.iaload, 1) := by decide +kernel
theorem d_Mo_triedCost_34 : decode b_Mo_triedCost 34 = .ok (.istore_n 3, 1) := by decide +kernel
theorem d_Mo_triedCost_35 : decode b_Mo_triedCost 35 = .ok (.iload_n 3, 1) := by decide +kernel
theorem d_Mo_triedCost_36 : decode b_Mo_triedCost 36 = .ok (.ldc 104, 2) := by decide +kernel
theorem d_Mo_triedCost_38 : decode b_Mo_triedCost 38 = .ok (.if_icmp .ne 8, 3) := by decide +kernel
theorem d_Mo_triedCost_41 : decode b_Mo_triedCost 41 = .ok (.ldc 104, 2) := by decide +kernel
theorem d_Mo_triedCost_43 : decode b_Mo_triedCost 43 = .ok (.goto 6, 3) := by decide +kernel
theorem d_Mo_triedCost_46 : decode b_Mo_triedCost 46 = .ok (.iload_n 1, 1) := by decide +kernel
theorem d_Mo_triedCost_47 : decode b_Mo_triedCost 47 = .ok (.iload_n 3, 1) := by decide +kernel
theorem d_Mo_triedCost_48 : decode b_Mo_triedCost 48 = .ok (.iadd, 1) := by decide +kernel
theorem d_Mo_triedCost_49 : decode b_Mo_triedCost 49 = .ok (.istore_n 1, 1) := by decide +kernel
theorem d_Mo_triedCost_50 : decode b_Mo_triedCost 50 = .ok (.iinc 2 1, 3) := by decide +kernel
theorem d_Mo_triedCost_53 : decode b_Mo_triedCost 53 = .ok (.goto (-49), 3) := by decide +kernel
theorem d_Mo_triedCost_56 : decode b_Mo_triedCost 56 = .ok (.iload_n 1, 1) := by decide +kernel
theorem d_Mo_triedCost_57 : decode b_Mo_triedCost 57 = .ok (.ireturn, 1) := by decide +kernel
def s_Mo_triedCost_0 (P_Mo_triedOf : MI → ML → Int32 → Prop) (Q_Mo_triedOf : MI → ML → Int32 → Int32 → MI → ML → Prop) (σ : MI) (τ : ML) (K4 : Int32 → Int32 → MI → ML → Prop) (R : Int32 → MI → ML → Prop) : Prop :=
  K4 0 0 σ τ
def s_Mo_triedCost_4 (P_Mo_triedOf : MI → ML → Int32 → Prop) (Q_Mo_triedOf : MI → ML → Int32 → Int32 → MI → ML → Prop) (σ : MI) (τ : ML) (x1 : Int32) (x2 : Int32) (K4 : Int32 → Int32 → MI → ML → Prop) (R : Int32 → MI → ML → Prop) : Prop :=
  ((σ 29 1) ≤ x2 →
  (R x1 σ τ)) ∧
  (¬ (σ 29 1) ≤ x2 →
  ((1000000000 ≤ x1 →
    (R x1 σ τ)) ∧
    (¬ 1000000000 ≤ x1 →
    (P_Mo_triedOf σ τ x2 ∧ ∀ (r29 : Int32) (s29 : MI) (t29 : ML), Q_Mo_triedOf σ τ x2 r29 s29 t29 → (vp_in ((128 * x2) + r29) 512 ∧ (∀ y34 : Int32, y34 = s29 45 (Int32.toNatClampNeg ((128 * x2) + r29)) → ((¬ y34 = 1000000000 →
      (∀ y49 : Int32, y49 = x1 + y34 → (∀ y50 : Int32, y50 = x2 + 1 → (K4 y49 y50 s29 t29)))) ∧
      (y34 = 1000000000 →
      (∀ y50 : Int32, y50 = x2 + 1 → (K4 1000000000 y50 s29 t29))))))))))
set_option maxHeartbeats 4000000 in
set_option maxRecDepth 100000 in
theorem k_Mo_triedCost (l : Launch) (D : va_G) (ad : Nat → Nat) (ci cl : ClassId)
    (pre : MI → ML → Prop) (post : MI → ML → Int32 → MI → ML → Prop) (P_Mo_triedOf : MI → ML → Int32 → Prop) (Q_Mo_triedOf : MI → ML → Int32 → Int32 → MI → ML → Prop)
    (h_Mo_triedOf : ∀ (sz : Nat) (σ : MI) (τ : ML) (b0 : Int32), P_Mo_triedOf σ τ b0 → gMi l D (xw ad ci cl) (xt ci cl) (xa ad) y_Mo_triedOf w_Mo_triedOf rm_Mo_triedOf [.ref (ad 29), .int b0] sz σ τ (Q_Mo_triedOf σ τ b0))
    (I4 : MI → ML → Int32 → Int32 → MI → ML → Prop) (m4 : MI → ML → Int32 → Int32 → MI → ML → Nat)
    (v0 : ∀ (σ0 : MI) (τ0 : ML), pre σ0 τ0 → s_Mo_triedCost_0 P_Mo_triedOf Q_Mo_triedOf σ0 τ0 (fun z0 z1 σ9 τ9 => I4 σ0 τ0 z0 z1 σ9 τ9) (post σ0 τ0))
    (v4 : ∀ (σ0 : MI) (τ0 : ML) (x1 : Int32) (x2 : Int32) (σ : MI) (τ : ML), I4 σ0 τ0 x1 x2 σ τ → s_Mo_triedCost_4 P_Mo_triedOf Q_Mo_triedOf σ τ x1 x2 (fun z0 z1 σ9 τ9 => I4 σ0 τ0 z0 z1 σ9 τ9 ∧ m4 σ0 τ0 z0 z1 σ9 τ9 < m4 σ0 τ0 x1 x2 σ τ) (post σ0 τ0)) :
    ∀ (sz : Nat) (σ0 : MI) (τ0 : ML), pre σ0 τ0 → gMi l D (xw ad ci cl) (xt ci cl) (xa ad) y_Mo_triedCost w_Mo_triedCost rm_Mo_triedCost [.ref (ad 29)] sz σ0 τ0 (post σ0 τ0) := by
  intro sz σ0 τ0 hpre
  refine gk_ofWi (cc := b_Mo_triedCost) (maxL := 4) (ret := (some .int)) (by decide) rfl xa_ok (Nat.le_of_ble_eq_true rfl) ?_
  intro p e s m below meth c ls hx hb hr hlocks hml hown hts hK hP hD hS hl
  have hl : lv_has ls 4 [(0, .ref (ad 29))] := hl
  have hown : s.vm.findClass R_Mo = some m.cls := hown
  have hL : ∀ n : Nat, (∀ (x1 : Int32) (x2 : Int32) (σ : MI) (τ : ML) (H : Heap) (locs : List Loc) (ls : Array Slot), m4 σ0 τ0 x1 x2 σ τ < n → I4 σ0 τ0 x1 x2 σ τ → va_P D classes ((xw ad ci cl) σ τ) H → va_D (gA (xa ad) s.heap.size) ((xw ad ci cl) σ τ) → va_S (gA (xa ad) s.heap.size) s.heap H locs → lv_has ls 4 [(0, .ref (ad 29)), (1, .int x1), (2, .int x2)] → W p l e rm_Mo_triedCost s m [.ref (ad 29)].toArray below meth c H locs 0 0 (gQi D (xw ad ci cl) (xt ci cl) (xa ad) below [.ref (ad 29)] s (post σ0 τ0)) (F0 m 4 ls [])) := by
    intro n
    induction n with
    | zero => exact fun _ _ _ _ _ _ _ hn => absurd hn (Nat.not_lt_zero _)
    | succ n ih =>
      · intro x1 x2 σ τ H locs ls hn hI hP hD hS hl
        have hv := v4 σ0 τ0 x1 x2 σ τ hI
        unfold s_Mo_triedCost_4 at hv
        refine lv_iload_n hx hb d_Mo_triedCost_4 rfl (lv_at hl 2 rfl) ?_
        refine lv_aload_n hx hb d_Mo_triedCost_5 rfl (lv_at hl 0 rfl) ?_
        refine va_get (D := D) (ci := 7) (v := .int (σ 29 1)) (C := R_Mo) (T := F_Mo) (N := 24) hx hb hts iw_Mo hown hK hP 29 rfl rfl 1 (by decide) (hts _ t_w248) (fun _ h9 => h9) rfl d_Mo_triedCost_6 ?_
        refine lv_icmp_ge (tgt := 56) hx hb d_Mo_triedCost_9 (by decide) (fun hc => ?_) (fun hc => ?_)
        · replace hv := hv.1 hc
          refine lv_iload_n hx hb d_Mo_triedCost_56 rfl (lv_at hl 1 rfl) ?_
          exact gk_iret hx hb hr hlocks hK hP hD hS hv d_Mo_triedCost_57
        · replace hv := hv.2 hc
          refine lv_iload_n hx hb d_Mo_triedCost_12 rfl (lv_at hl 1 rfl) ?_
          refine lv_ldc (v := 1000000000) hx hb hown (hts _ t_w287) d_Mo_triedCost_13 ?_
          refine lv_icmp_ge (tgt := 56) hx hb d_Mo_triedCost_15 (by decide) (fun hc => ?_) (fun hc => ?_)
          · replace hv := hv.1 hc
            refine lv_iload_n hx hb d_Mo_triedCost_56 rfl (lv_at hl 1 rfl) ?_
            exact gk_iret hx hb hr hlocks hK hP hD hS hv d_Mo_triedCost_57
          · replace hv := hv.2 hc
            refine lv_aload_n hx hb d_Mo_triedCost_18 rfl (lv_at hl 0 rfl) ?_
            refine va_get (D := D) (ci := 7) (v := .ref (ad 45)) (C := R_Mo) (T := F_Mo) (N := 24) hx hb hts iw_Mo hown hK hP 29 rfl rfl 22 (by decide) (hts _ t_w291) (fun _ h9 => h9) rfl d_Mo_triedCost_19 ?_
            refine lv_sipush (v := 128) hx hb d_Mo_triedCost_22 (by decide) ?_
            refine lv_iload_n hx hb d_Mo_triedCost_25 rfl (lv_at hl 2 rfl) ?_
            refine lv_imul hx hb d_Mo_triedCost_26 ?_
            refine lv_aload_n hx hb d_Mo_triedCost_27 rfl (lv_at hl 0 rfl) ?_
            refine lv_iload_n hx hb d_Mo_triedCost_28 rfl (lv_at hl 2 rfl) ?_
            obtain ⟨hg, hv⟩ := hv
            refine gk_callVi (As := [.int x2]) (rest := [.int (128 * x2), .ref (ad 45)]) (b := ad 29) ⟨hx, hb, hml, hown, hts⟩ (h_Mo_triedOf _ σ τ x2 hg) (gk_cwV 1 hts t_w295 rfl rfl rfl (hts _ t_w292) (hts _ t_w293) (hts _ t_w294) (hts _ t_w252) (by decide +kernel) ⟨Nat.le_of_ble_eq_true rfl, Nat.le_of_ble_eq_true rfl⟩) hK hP hD hS (va_recv hK hP (ci := 7) (q0 := 29) rfl rfl) rfl hl.1 rfl (lv_room (Nat.le_of_ble_eq_true rfl)) d_Mo_triedCost_29 ⟨Nat.zero_le _, Nat.zero_le _⟩ ?_
            intro r29 s29 t29 H locs hw hP hD hS
            replace hv := hv r29 s29 t29 hw
            refine lv_iadd hx hb d_Mo_triedCost_32 ?_
            obtain ⟨hi, hv⟩ := hv
            refine va_iald hx hb hK hP 45 0 rfl rfl hi d_Mo_triedCost_33 ?_
            refine lv_topi (fun y34 ey34 => ?_)
            replace hv := hv y34 ey34
            refine lv_istore_n (lv' := [(3, .int y34), (0, .ref (ad 29)), (1, .int x1), (2, .int x2)]) hx hb d_Mo_triedCost_34 rfl hl (by decide) rfl (fun ls hl => ?_)
            refine lv_iload_n hx hb d_Mo_triedCost_35 rfl (lv_at hl 0 rfl) ?_
            refine lv_ldc (v := 1000000000) hx hb hown (hts _ t_w287) d_Mo_triedCost_36 ?_
            refine lv_icmp_ne (tgt := 46) hx hb d_Mo_triedCost_38 (by decide) (fun hc => ?_) (fun hc => ?_)
            · replace hv := hv.1 hc
              refine lv_iload_n hx hb d_Mo_triedCost_46 rfl (lv_at hl 2 rfl) ?_
              refine lv_iload_n hx hb d_Mo_triedCost_47 rfl (lv_at hl 0 rfl) ?_
              refine lv_iadd hx hb d_Mo_triedCost_48 ?_
              refine lv_topi (fun y49 ey49 => ?_)
              replace hv := hv y49 ey49
              refine lv_istore_n (lv' := [(1, .int y49), (3, .int y34), (0, .ref (ad 29)), (2, .int x2)]) hx hb d_Mo_triedCost_49 rfl hl (by decide) rfl (fun ls hl => ?_)
              obtain ⟨y50, ey50⟩ : ∃ z : Int32, z = x2 + 1 := ⟨_, rfl⟩
              replace hv := hv y50 ey50
              refine lv_iinc (v := y50) (lv' := [(2, .int y50), (1, .int y49), (3, .int y34), (0, .ref (ad 29))]) hx hb d_Mo_triedCost_50 hl (k := 3) rfl (by rw [ey50]; rfl) (by decide) rfl (fun ls hl => ?_)
              refine lv_goto (tgt := 4) hx hb d_Mo_triedCost_53 (by decide) ?_
              obtain ⟨hI, hm⟩ := hv
              exact ih y49 y50 s29 t29 _ _ _ (Nat.lt_of_lt_of_le hm (Nat.le_of_lt_succ hn)) hI hP hD hS (lv_sub hl [3, 1, 0] rfl)
            · replace hv := hv.2 hc
              refine lv_ldc (v := 1000000000) hx hb hown (hts _ t_w287) d_Mo_triedCost_41 ?_
              refine lv_goto (tgt := 49) hx hb d_Mo_triedCost_43 (by decide) ?_
              refine lv_istore_n (lv' := [(1, .int 1000000000), (3, .int y34), (0, .ref (ad 29)), (2, .int x2)]) hx hb d_Mo_triedCost_49 rfl hl (by decide) rfl (fun ls hl => ?_)
              obtain ⟨y50, ey50⟩ : ∃ z : Int32, z = x2 + 1 := ⟨_, rfl⟩
              replace hv := hv y50 ey50
              refine lv_iinc (v := y50) (lv' := [(2, .int y50), (1, .int 1000000000), (3, .int y34), (0, .ref (ad 29))]) hx hb d_Mo_triedCost_50 hl (k := 3) rfl (by rw [ey50]; rfl) (by decide) rfl (fun ls hl => ?_)
              refine lv_goto (tgt := 4) hx hb d_Mo_triedCost_53 (by decide) ?_
              obtain ⟨hI, hm⟩ := hv
              exact ih 1000000000 y50 s29 t29 _ _ _ (Nat.lt_of_lt_of_le hm (Nat.le_of_lt_succ hn)) hI hP hD hS (lv_sub hl [3, 1, 0] rfl)
  have hv := v0 σ0 τ0 hpre
  unfold s_Mo_triedCost_0 at hv
  refine lv_iconst (v := 0) hx hb d_Mo_triedCost_0 (by decide) ?_
  refine lv_istore_n (lv' := [(1, .int 0), (0, .ref (ad 29))]) hx hb d_Mo_triedCost_1 rfl hl (by decide) rfl (fun ls hl => ?_)
  refine lv_iconst (v := 0) hx hb d_Mo_triedCost_2 (by decide) ?_
  refine lv_istore_n (lv' := [(2, .int 0), (1, .int 0), (0, .ref (ad 29))]) hx hb d_Mo_triedCost_3 rfl hl (by decide) rfl (fun ls hl => ?_)
  exact (hL _) 0 0 σ0 τ0 _ _ _ (Nat.lt_succ_self _) hv hP hD hS (lv_sub hl [2, 1, 0] rfl)
theorem d_Mo_triedMany_0 : decode b_Mo_triedMany 0 = .ok (.iconst 0, 1) := by decide +kernel
theorem d_Mo_triedMany_1 : decode b_Mo_triedMany 1 = .ok (.istore_n 1, 1) := by decide +kernel
theorem d_Mo_triedMany_2 : decode b_Mo_triedMany 2 = .ok (.iconst 0, 1) := by decide +kernel
theorem d_Mo_triedMany_3 : decode b_Mo_triedMany 3 = .ok (.istore_n 2, 1) := by decide +kernel
theorem d_Mo_triedMany_4 : decode b_Mo_triedMany 4 = .ok (.iload_n 2, 1) := by decide +kernel
theorem d_Mo_triedMany_5 : decode b_Mo_triedMany 5 = .ok (.aload_n 0, 1) := by decide +kernel
theorem d_Mo_triedMany_6 : decode b_Mo_triedMany 6 = .ok (.getfield 68, 3) := by decide +kernel
theorem d_Mo_triedMany_9 : decode b_Mo_triedMany 9 = .ok (.if_icmp .ge 30, 3) := by decide +kernel
theorem d_Mo_triedMany_12 : decode b_Mo_triedMany 12 = .ok (.iload_n 1, 1) := by decide +kernel
theorem d_Mo_triedMany_13 : decode b_Mo_triedMany 13 = .ok (.aload_n 0, 1) := by decide +kernel
theorem d_Mo_triedMany_14 : decode b_Mo_triedMany 14 = .ok (.getfield 58, 3) := by decide +kernel
theorem d_Mo_triedMany_17 : decode b_Mo_triedMany 17 = .ok (.iload_n 2, 1) := by decide +kernel
theorem d_Mo_triedMany_18 : decode b_Mo_triedMany 18 = .ok (.iaload, 1) := by decide +kernel
theorem d_Mo_triedMany_19 : decode b_Mo_triedMany 19 = .ok (.aload_n 0, 1) := by decide +kernel
theorem d_Mo_triedMany_20 : decode b_Mo_triedMany 20 = .ok (.getfield 65, 3) := by decide +kernel
theorem d_Mo_triedMany_23 : decode b_Mo_triedMany 23 = .ok (.if_icmp .ge 7, 3) := by decide +kernel
theorem d_Mo_triedMany_26 : decode b_Mo_triedMany 26 = .ok (.iconst 1, 1) := by decide +kernel
theorem d_Mo_triedMany_27 : decode b_Mo_triedMany 27 = .ok (.goto 4, 3) := by decide +kernel
theorem d_Mo_triedMany_30 : decode b_Mo_triedMany 30 = .ok (.iconst 0, 1) := by decide +kernel
theorem d_Mo_triedMany_31 : decode b_Mo_triedMany 31 = .ok (.iadd, 1) := by decide +kernel
theorem d_Mo_triedMany_32 : decode b_Mo_triedMany 32 = .ok (.istore_n 1, 1) := by decide +kernel
theorem d_Mo_triedMany_33 : decode b_Mo_triedMany 33 = .ok (.iinc 2 1, 3) := by decide +kernel
theorem d_Mo_triedMany_36 : decode b_Mo_triedMany 36 = .ok (.goto (-32), 3) := by decide +kernel
theorem d_Mo_triedMany_39 : decode b_Mo_triedMany 39 = .ok (.iload_n 1, 1) := by decide +kernel
theorem d_Mo_triedMany_40 : decode b_Mo_triedMany 40 = .ok (.ireturn, 1) := by decide +kernel
def s_Mo_triedMany_0 (σ : MI) (τ : ML) (K4 : Int32 → Int32 → MI → ML → Prop) (R : Int32 → MI → ML → Prop) : Prop :=
  K4 0 0 σ τ
def s_Mo_triedMany_4 (σ : MI) (τ : ML) (x1 : Int32) (x2 : Int32) (K4 : Int32 → Int32 → MI → ML → Prop) (R : Int32 → MI → ML → Prop) : Prop :=
  ((σ 29 10) ≤ x2 →
  (R x1 σ τ)) ∧
  (¬ (σ 29 10) ≤ x2 →
  (vp_in x2 7 ∧ (((σ 29 1) ≤ (σ 46 (Int32.toNatClampNeg x2)) →
    (∀ y32 : Int32, y32 = x1 + 0 → (∀ y33 : Int32, y33 = x2 + 1 → (K4 y32 y33 σ τ)))) ∧
    (¬ (σ 29 1) ≤ (σ 46 (Int32.toNatClampNeg x2)) →
    (∀ y32 : Int32, y32 = x1 + 1 → (∀ y33 : Int32, y33 = x2 + 1 → (K4 y32 y33 σ τ)))))))
set_option maxHeartbeats 4000000 in
set_option maxRecDepth 100000 in
theorem k_Mo_triedMany (l : Launch) (D : va_G) (ad : Nat → Nat) (ci cl : ClassId)
    (pre : MI → ML → Prop) (post : MI → ML → Int32 → MI → ML → Prop)
    (I4 : MI → ML → Int32 → Int32 → MI → ML → Prop) (m4 : MI → ML → Int32 → Int32 → MI → ML → Nat)
    (v0 : ∀ (σ0 : MI) (τ0 : ML), pre σ0 τ0 → s_Mo_triedMany_0 σ0 τ0 (fun z0 z1 σ9 τ9 => I4 σ0 τ0 z0 z1 σ9 τ9) (post σ0 τ0))
    (v4 : ∀ (σ0 : MI) (τ0 : ML) (x1 : Int32) (x2 : Int32) (σ : MI) (τ : ML), I4 σ0 τ0 x1 x2 σ τ → s_Mo_triedMany_4 σ τ x1 x2 (fun z0 z1 σ9 τ9 => I4 σ0 τ0 z0 z1 σ9 τ9 ∧ m4 σ0 τ0 z0 z1 σ9 τ9 < m4 σ0 τ0 x1 x2 σ τ) (post σ0 τ0)) :
    ∀ (sz : Nat) (σ0 : MI) (τ0 : ML), pre σ0 τ0 → gMi l D (xw ad ci cl) (xt ci cl) (xa ad) y_Mo_triedMany w_Mo_triedMany rm_Mo_triedMany [.ref (ad 29)] sz σ0 τ0 (post σ0 τ0) := by
  intro sz σ0 τ0 hpre
  refine gk_ofWi (cc := b_Mo_triedMany) (maxL := 3) (ret := (some .int)) (by decide) rfl xa_ok (Nat.le_of_ble_eq_true rfl) ?_
  intro p e s m below meth c ls hx hb hr hlocks hml hown hts hK hP hD hS hl
  have hl : lv_has ls 3 [(0, .ref (ad 29))] := hl
  have hown : s.vm.findClass R_Mo = some m.cls := hown
  have hL : ∀ n : Nat, (∀ (x1 : Int32) (x2 : Int32) (σ : MI) (τ : ML) (H : Heap) (locs : List Loc) (ls : Array Slot), m4 σ0 τ0 x1 x2 σ τ < n → I4 σ0 τ0 x1 x2 σ τ → va_P D classes ((xw ad ci cl) σ τ) H → va_D (gA (xa ad) s.heap.size) ((xw ad ci cl) σ τ) → va_S (gA (xa ad) s.heap.size) s.heap H locs → lv_has ls 3 [(0, .ref (ad 29)), (1, .int x1), (2, .int x2)] → W p l e rm_Mo_triedMany s m [.ref (ad 29)].toArray below meth c H locs 0 0 (gQi D (xw ad ci cl) (xt ci cl) (xa ad) below [.ref (ad 29)] s (post σ0 τ0)) (F0 m 4 ls [])) := by
    intro n
    induction n with
    | zero => exact fun _ _ _ _ _ _ _ hn => absurd hn (Nat.not_lt_zero _)
    | succ n ih =>
      · intro x1 x2 σ τ H locs ls hn hI hP hD hS hl
        have hv := v4 σ0 τ0 x1 x2 σ τ hI
        unfold s_Mo_triedMany_4 at hv
        refine lv_iload_n hx hb d_Mo_triedMany_4 rfl (lv_at hl 2 rfl) ?_
        refine lv_aload_n hx hb d_Mo_triedMany_5 rfl (lv_at hl 0 rfl) ?_
        refine va_get (D := D) (ci := 7) (v := .int (σ 29 10)) (C := R_Mo) (T := F_Mo) (N := 24) hx hb hts iw_Mo hown hK hP 29 rfl rfl 10 (by decide) (hts _ t_w249) (fun _ h9 => h9) rfl d_Mo_triedMany_6 ?_
        refine lv_icmp_ge (tgt := 39) hx hb d_Mo_triedMany_9 (by decide) (fun hc => ?_) (fun hc => ?_)
        · replace hv := hv.1 hc
          refine lv_iload_n hx hb d_Mo_triedMany_39 rfl (lv_at hl 1 rfl) ?_
          exact gk_iret hx hb hr hlocks hK hP hD hS hv d_Mo_triedMany_40
        · replace hv := hv.2 hc
          refine lv_iload_n hx hb d_Mo_triedMany_12 rfl (lv_at hl 1 rfl) ?_
          refine lv_aload_n hx hb d_Mo_triedMany_13 rfl (lv_at hl 0 rfl) ?_
          refine va_get (D := D) (ci := 7) (v := .ref (ad 46)) (C := R_Mo) (T := F_Mo) (N := 24) hx hb hts iw_Mo hown hK hP 29 rfl rfl 23 (by decide) (hts _ t_w290) (fun _ h9 => h9) rfl d_Mo_triedMany_14 ?_
          refine lv_iload_n hx hb d_Mo_triedMany_17 rfl (lv_at hl 2 rfl) ?_
          obtain ⟨hi, hv⟩ := hv
          refine va_iald hx hb hK hP 46 0 rfl rfl hi d_Mo_triedMany_18 ?_
          refine lv_aload_n hx hb d_Mo_triedMany_19 rfl (lv_at hl 0 rfl) ?_
          refine va_get (D := D) (ci := 7) (v := .int (σ 29 1)) (C := R_Mo) (T := F_Mo) (N := 24) hx hb hts iw_Mo hown hK hP 29 rfl rfl 1 (by decide) (hts _ t_w248) (fun _ h9 => h9) rfl d_Mo_triedMany_20 ?_
          refine lv_icmp_ge (tgt := 30) hx hb d_Mo_triedMany_23 (by decide) (fun hc => ?_) (fun hc => ?_)
          · replace hv := hv.1 hc
            refine lv_iconst (v := 0) hx hb d_Mo_triedMany_30 (by decide) ?_
            refine lv_iadd hx hb d_Mo_triedMany_31 ?_
            refine lv_topi (fun y32 ey32 => ?_)
            replace hv := hv y32 ey32
            refine lv_istore_n (lv' := [(1, .int y32), (0, .ref (ad 29)), (2, .int x2)]) hx hb d_Mo_triedMany_32 rfl hl (by decide) rfl (fun ls hl => ?_)
            obtain ⟨y33, ey33⟩ : ∃ z : Int32, z = x2 + 1 := ⟨_, rfl⟩
            replace hv := hv y33 ey33
            refine lv_iinc (v := y33) (lv' := [(2, .int y33), (1, .int y32), (0, .ref (ad 29))]) hx hb d_Mo_triedMany_33 hl (k := 2) rfl (by rw [ey33]; rfl) (by decide) rfl (fun ls hl => ?_)
            refine lv_goto (tgt := 4) hx hb d_Mo_triedMany_36 (by decide) ?_
            obtain ⟨hI, hm⟩ := hv
            exact ih y32 y33 σ τ _ _ _ (Nat.lt_of_lt_of_le hm (Nat.le_of_lt_succ hn)) hI hP hD hS (lv_sub hl [2, 1, 0] rfl)
          · replace hv := hv.2 hc
            refine lv_iconst (v := 1) hx hb d_Mo_triedMany_26 (by decide) ?_
            refine lv_goto (tgt := 31) hx hb d_Mo_triedMany_27 (by decide) ?_
            refine lv_iadd hx hb d_Mo_triedMany_31 ?_
            refine lv_topi (fun y32 ey32 => ?_)
            replace hv := hv y32 ey32
            refine lv_istore_n (lv' := [(1, .int y32), (0, .ref (ad 29)), (2, .int x2)]) hx hb d_Mo_triedMany_32 rfl hl (by decide) rfl (fun ls hl => ?_)
            obtain ⟨y33, ey33⟩ : ∃ z : Int32, z = x2 + 1 := ⟨_, rfl⟩
            replace hv := hv y33 ey33
            refine lv_iinc (v := y33) (lv' := [(2, .int y33), (1, .int y32), (0, .ref (ad 29))]) hx hb d_Mo_triedMany_33 hl (k := 2) rfl (by rw [ey33]; rfl) (by decide) rfl (fun ls hl => ?_)
            refine lv_goto (tgt := 4) hx hb d_Mo_triedMany_36 (by decide) ?_
            obtain ⟨hI, hm⟩ := hv
            exact ih y32 y33 σ τ _ _ _ (Nat.lt_of_lt_of_le hm (Nat.le_of_lt_succ hn)) hI hP hD hS (lv_sub hl [2, 1, 0] rfl)
  have hv := v0 σ0 τ0 hpre
  unfold s_Mo_triedMany_0 at hv
  refine lv_iconst (v := 0) hx hb d_Mo_triedMany_0 (by decide) ?_
  refine lv_istore_n (lv' := [(1, .int 0), (0, .ref (ad 29))]) hx hb d_Mo_triedMany_1 rfl hl (by decide) rfl (fun ls hl => ?_)
  refine lv_iconst (v := 0) hx hb d_Mo_triedMany_2 (by decide) ?_
  refine lv_istore_n (lv' := [(2, .int 0), (1, .int 0), (0, .ref (ad 29))]) hx hb d_Mo_triedMany_3 rfl hl (by decide) rfl (fun ls hl => ?_)
  exact (hL _) 0 0 σ0 τ0 _ _ _ (Nat.lt_succ_self _) hv hP hD hS (lv_sub hl [2, 1, 0] rfl)
theorem d_Mo_goesOn_0 : decode b_Mo_goesOn 0 = .ok (.aload_n 0, 1) := by decide +kernel
theorem d_Mo_goesOn_1 : decode b_Mo_goesOn 1 = .ok (.getfield 68, 3) := by decide +kernel
theorem d_Mo_goesOn_4 : decode b_Mo_goesOn 4 = .ok (.iconst 1, 1) := by decide +kernel
theorem d_Mo_goesOn_5 : decode b_Mo_goesOn 5 = .ok (.isub, 1) := by decide +kernel
theorem d_Mo_goesOn_6 : decode b_Mo_goesOn 6 = .ok (.istore_n 1, 1) := by decide +kernel
theorem d_Mo_goesOn_7 : decode b_Mo_goesOn 7 = .ok (.iload_n 1, 1) := by decide +kernel
theorem d_Mo_goesOn_8 : decode b_Mo_goesOn 8 = .ok (.ifCond .lt 29, 3) := by decide +kernel
theorem d_Mo_goesOn_11 : decode b_Mo_goesOn 11 = .ok (.aload_n 0, 1) := by decide +kernel
theorem d_Mo_goesOn_12 : decode b_Mo_goesOn 12 = .ok (.getfield 58, 3) := by decide +kernel
theorem d_Mo_goesOn_15 : decode b_Mo_goesOn 15 = .ok (.iload_n 1, 1) := by decide +kernel
theorem d_Mo_goesOn_16 : decode b_Mo_goesOn 16 = .ok (.iaload, 1) := by decide +kernel
theorem d_Mo_goesOn_17 : decode b_Mo_goesOn 17 = .ok (.aload_n 0, 1) := by decide +kernel
theorem d_Mo_goesOn_18 : decode b_Mo_goesOn 18 = .ok (.getfield 65, 3) := by decide +kernel
theorem d_Mo_goesOn_21 : decode b_Mo_goesOn 21 = .ok (.if_icmp .ne 16, 3) := by decide +kernel
theorem d_Mo_goesOn_24 : decode b_Mo_goesOn 24 = .ok (.aload_n 0, 1) := by decide +kernel
theorem d_Mo_goesOn_25 : decode b_Mo_goesOn 25 = .ok (.getfield 58, 3) := by decide +kernel
theorem d_Mo_goesOn_28 : decode b_Mo_goesOn 28 = .ok (.iload_n 1, 1) := by decide +kernel
theorem d_Mo_goesOn_29 : decode b_Mo_goesOn 29 = .ok (.iconst 0, 1) := by decide +kernel
theorem d_Mo_goesOn_30 : decode b_Mo_goesOn 30 = .ok (.iastore, 1) := by decide +kernel
theorem d_Mo_goesOn_31 : decode b_Mo_goesOn 31 = .ok (.iinc 1 (-1), 3) := by decide +kernel
theorem d_Mo_goesOn_34 : decode b_Mo_goesOn 34 = .ok (.goto (-27), 3) := by decide +kernel
theorem d_Mo_goesOn_37 : decode b_Mo_goesOn 37 = .ok (.iload_n 1, 1) := by decide +kernel
theorem d_Mo_goesOn_38 : decode b_Mo_goesOn 38 = .ok (.ifCond .lt 13, 3) := by decide +kernel
theorem d_Mo_goesOn_41 : decode b_Mo_goesOn 41 = .ok (.aload_n 0, 1) := by decide +kernel
theorem d_Mo_goesOn_42 : decode b_Mo_goesOn 42 = .ok (.getfield 58, 3) := by decide +kernel
theorem d_Mo_goesOn_45 : decode b_Mo_goesOn 45 = .ok (.iload_n 1, 1) := by decide +kernel
theorem d_Mo_goesOn_46 : decode b_Mo_goesOn 46 = .ok (.dup2, 1) := by decide +kernel
theorem d_Mo_goesOn_47 : decode b_Mo_goesOn 47 = .ok (.iaload, 1) := by decide +kernel
theorem d_Mo_goesOn_48 : decode b_Mo_goesOn 48 = .ok (.iconst 1, 1) := by decide +kernel
theorem d_Mo_goesOn_49 : decode b_Mo_goesOn 49 = .ok (.iadd, 1) := by decide +kernel
theorem d_Mo_goesOn_50 : decode b_Mo_goesOn 50 = .ok (.iastore, 1) := by decide +kernel
theorem d_Mo_goesOn_51 : decode b_Mo_goesOn 51 = .ok (.iload_n 1, 1) := by decide +kernel
theorem d_Mo_goesOn_52 : decode b_Mo_goesOn 52 = .ok (.ifCond .lt 7, 3) := by decide +kernel
theorem d_Mo_goesOn_55 : decode b_Mo_goesOn 55 = .ok (.iconst 1, 1) := by decide +kernel
theorem d_Mo_goesOn_56 : decode b_Mo_goesOn 56 = .ok (.goto 4, 3) := by decide +kernel
theorem d_Mo_goesOn_59 : decode b_Mo_goesOn 59 = .ok (.iconst 0, 1) := by decide +kernel
theorem d_Mo_goesOn_60 : decode b_Mo_goesOn 60 = .ok (.ireturn, 1) := by decide +kernel
def s_Mo_goesOn_51 (σ : MI) (τ : ML) (x1 : Int32) (K7 : Int32 → MI → ML → Prop) (R : Int32 → MI → ML → Prop) : Prop :=
  (x1 < 0 →
  ((0 = (0 : Int32) ∨ 0 = (1 : Int32)) ∧ R 0 σ τ)) ∧
  (¬ x1 < 0 →
  ((1 = (0 : Int32) ∨ 1 = (1 : Int32)) ∧ R 1 σ τ))
def s_Mo_goesOn_37 (σ : MI) (τ : ML) (x1 : Int32) (K7 : Int32 → MI → ML → Prop) (R : Int32 → MI → ML → Prop) : Prop :=
  (x1 < 0 →
  (s_Mo_goesOn_51 σ τ x1 K7 R)) ∧
  (¬ x1 < 0 →
  (vp_in x1 7 ∧ (vp_in x1 7 ∧ (∀ s50 : MI, s50 = st2 σ 46 (Int32.toNatClampNeg x1) ((σ 46 (Int32.toNatClampNeg x1)) + 1) → (s_Mo_goesOn_51 s50 τ x1 K7 R)))))
def s_Mo_goesOn_0 (σ : MI) (τ : ML) (K7 : Int32 → MI → ML → Prop) (R : Int32 → MI → ML → Prop) : Prop :=
  ∀ y6 : Int32, y6 = (σ 29 10) - 1 → (K7 y6 σ τ)
def s_Mo_goesOn_7 (σ : MI) (τ : ML) (x1 : Int32) (K7 : Int32 → MI → ML → Prop) (R : Int32 → MI → ML → Prop) : Prop :=
  (x1 < 0 →
  (s_Mo_goesOn_37 σ τ x1 K7 R)) ∧
  (¬ x1 < 0 →
  (vp_in x1 7 ∧ ((¬ (σ 46 (Int32.toNatClampNeg x1)) = (σ 29 1) →
    (s_Mo_goesOn_37 σ τ x1 K7 R)) ∧
    ((σ 46 (Int32.toNatClampNeg x1)) = (σ 29 1) →
    (vp_in x1 7 ∧ (∀ s30 : MI, s30 = st2 σ 46 (Int32.toNatClampNeg x1) 0 → (∀ y31 : Int32, y31 = x1 + (-1) → (K7 y31 s30 τ))))))))
set_option maxHeartbeats 4000000 in
set_option maxRecDepth 100000 in
theorem k_Mo_goesOn (l : Launch) (D : va_G) (ad : Nat → Nat) (ci cl : ClassId)
    (pre : MI → ML → Prop) (post : MI → ML → Int32 → MI → ML → Prop)
    (I7 : MI → ML → Int32 → MI → ML → Prop) (m7 : MI → ML → Int32 → MI → ML → Nat)
    (v0 : ∀ (σ0 : MI) (τ0 : ML), pre σ0 τ0 → s_Mo_goesOn_0 σ0 τ0 (fun z0 σ9 τ9 => I7 σ0 τ0 z0 σ9 τ9) (post σ0 τ0))
    (v7 : ∀ (σ0 : MI) (τ0 : ML) (x1 : Int32) (σ : MI) (τ : ML), I7 σ0 τ0 x1 σ τ → s_Mo_goesOn_7 σ τ x1 (fun z0 σ9 τ9 => I7 σ0 τ0 z0 σ9 τ9 ∧ m7 σ0 τ0 z0 σ9 τ9 < m7 σ0 τ0 x1 σ τ) (post σ0 τ0)) :
    ∀ (sz : Nat) (σ0 : MI) (τ0 : ML), pre σ0 τ0 → gMi l D (xw ad ci cl) (xt ci cl) (xa ad) y_Mo_goesOn w_Mo_goesOn rm_Mo_goesOn [.ref (ad 29)] sz σ0 τ0 (post σ0 τ0) := by
  intro sz σ0 τ0 hpre
  refine gk_ofWi (cc := b_Mo_goesOn) (maxL := 2) (ret := (some .boolean)) (by decide) rfl xa_ok (Nat.le_of_ble_eq_true rfl) ?_
  intro p e s m below meth c ls hx hb hr hlocks hml hown hts hK hP hD hS hl
  have hl : lv_has ls 2 [(0, .ref (ad 29))] := hl
  have hown : s.vm.findClass R_Mo = some m.cls := hown
  have hL : ∀ n : Nat, (∀ (x1 : Int32) (σ : MI) (τ : ML) (H : Heap) (locs : List Loc) (ls : Array Slot), m7 σ0 τ0 x1 σ τ < n → I7 σ0 τ0 x1 σ τ → va_P D classes ((xw ad ci cl) σ τ) H → va_D (gA (xa ad) s.heap.size) ((xw ad ci cl) σ τ) → va_S (gA (xa ad) s.heap.size) s.heap H locs → lv_has ls 2 [(0, .ref (ad 29)), (1, .int x1)] → W p l e rm_Mo_goesOn s m [.ref (ad 29)].toArray below meth c H locs 0 0 (gQi D (xw ad ci cl) (xt ci cl) (xa ad) below [.ref (ad 29)] s (post σ0 τ0)) (F0 m 7 ls [])) := by
    intro n
    induction n with
    | zero => exact fun _ _ _ _ _ _ hn => absurd hn (Nat.not_lt_zero _)
    | succ n ih =>
      · intro x1 σ τ H locs ls hn hI hP hD hS hl
        have hv := v7 σ0 τ0 x1 σ τ hI
        unfold s_Mo_goesOn_7 at hv
        have j51 : ∀ (w1 : Int32) (σ1 : MI) (τ1 : ML) (H : Heap) (locs : List Loc) (ls : Array Slot), s_Mo_goesOn_51 σ1 τ1 w1 (fun z0 σ9 τ9 => I7 σ0 τ0 z0 σ9 τ9 ∧ m7 σ0 τ0 z0 σ9 τ9 < m7 σ0 τ0 x1 σ τ) (post σ0 τ0) → va_P D classes ((xw ad ci cl) σ1 τ1) H → va_D (gA (xa ad) s.heap.size) ((xw ad ci cl) σ1 τ1) → va_S (gA (xa ad) s.heap.size) s.heap H locs → lv_has ls 2 [(1, .int w1)] → W p l e rm_Mo_goesOn s m [.ref (ad 29)].toArray below meth c H locs 0 0 (gQi D (xw ad ci cl) (xt ci cl) (xa ad) below [.ref (ad 29)] s (post σ0 τ0)) (F0 m 51 ls []) := by
          intro w1 σ1 τ1 H locs ls hv hP hD hS hl
          unfold s_Mo_goesOn_51 at hv
          refine lv_iload_n hx hb d_Mo_goesOn_51 rfl (lv_at hl 0 rfl) ?_
          refine lv_if_lt (tgt := 59) hx hb d_Mo_goesOn_52 (by decide) (fun hc => ?_) (fun hc => ?_)
          · replace hv := hv.1 hc
            refine lv_iconst (v := 0) hx hb d_Mo_goesOn_59 (by decide) ?_
            obtain ⟨hz, hv⟩ := hv
            exact gk_zret hx hb hr hlocks (gk_nz hz) hK hP hD hS hv d_Mo_goesOn_60
          · replace hv := hv.2 hc
            refine lv_iconst (v := 1) hx hb d_Mo_goesOn_55 (by decide) ?_
            refine lv_goto (tgt := 60) hx hb d_Mo_goesOn_56 (by decide) ?_
            obtain ⟨hz, hv⟩ := hv
            exact gk_zret hx hb hr hlocks (gk_nz hz) hK hP hD hS hv d_Mo_goesOn_60
        have j37 : ∀ (w1 : Int32) (σ1 : MI) (τ1 : ML) (H : Heap) (locs : List Loc) (ls : Array Slot), s_Mo_goesOn_37 σ1 τ1 w1 (fun z0 σ9 τ9 => I7 σ0 τ0 z0 σ9 τ9 ∧ m7 σ0 τ0 z0 σ9 τ9 < m7 σ0 τ0 x1 σ τ) (post σ0 τ0) → va_P D classes ((xw ad ci cl) σ1 τ1) H → va_D (gA (xa ad) s.heap.size) ((xw ad ci cl) σ1 τ1) → va_S (gA (xa ad) s.heap.size) s.heap H locs → lv_has ls 2 [(0, .ref (ad 29)), (1, .int w1)] → W p l e rm_Mo_goesOn s m [.ref (ad 29)].toArray below meth c H locs 0 0 (gQi D (xw ad ci cl) (xt ci cl) (xa ad) below [.ref (ad 29)] s (post σ0 τ0)) (F0 m 37 ls []) := by
          intro w1 σ1 τ1 H locs ls hv hP hD hS hl
          unfold s_Mo_goesOn_37 at hv
          refine lv_iload_n hx hb d_Mo_goesOn_37 rfl (lv_at hl 1 rfl) ?_
          refine lv_if_lt (tgt := 51) hx hb d_Mo_goesOn_38 (by decide) (fun hc => ?_) (fun hc => ?_)
          · replace hv := hv.1 hc
            exact j51 w1 σ1 τ1 _ _ _ hv hP hD hS (lv_sub hl [1] rfl)
          · replace hv := hv.2 hc
            refine lv_aload_n hx hb d_Mo_goesOn_41 rfl (lv_at hl 0 rfl) ?_
            refine va_get (D := D) (ci := 7) (v := .ref (ad 46)) (C := R_Mo) (T := F_Mo) (N := 24) hx hb hts iw_Mo hown hK hP 29 rfl rfl 23 (by decide) (hts _ t_w290) (fun _ h9 => h9) rfl d_Mo_goesOn_42 ?_
            refine lv_iload_n hx hb d_Mo_goesOn_45 rfl (lv_at hl 1 rfl) ?_
            refine lv_dup2_11 hx hb d_Mo_goesOn_46 rfl rfl ?_
            obtain ⟨hi, hv⟩ := hv
            refine va_iald hx hb hK hP 46 0 rfl rfl hi d_Mo_goesOn_47 ?_
            refine lv_iconst (v := 1) hx hb d_Mo_goesOn_48 (by decide) ?_
            refine lv_iadd hx hb d_Mo_goesOn_49 ?_
            obtain ⟨hi, hv⟩ := hv
            refine va_iast hx hb hK hP hD hS 46 0 rfl rfl hi d_Mo_goesOn_50 (fun H locs hP hD hS => ?_)
            rw [xa_46] at hP hD
            obtain ⟨s50, es50⟩ : ∃ z : MI, z = st2 σ1 46 (Int32.toNatClampNeg w1) ((σ1 46 (Int32.toNatClampNeg w1)) + 1) := ⟨_, rfl⟩
            rw [← es50] at hP hD
            replace hv := hv s50 es50
            exact j51 w1 s50 τ1 _ _ _ hv hP hD hS (lv_sub hl [1] rfl)
        refine lv_iload_n hx hb d_Mo_goesOn_7 rfl (lv_at hl 1 rfl) ?_
        refine lv_if_lt (tgt := 37) hx hb d_Mo_goesOn_8 (by decide) (fun hc => ?_) (fun hc => ?_)
        · replace hv := hv.1 hc
          exact j37 x1 σ τ _ _ _ hv hP hD hS (lv_sub hl [0, 1] rfl)
        · replace hv := hv.2 hc
          refine lv_aload_n hx hb d_Mo_goesOn_11 rfl (lv_at hl 0 rfl) ?_
          refine va_get (D := D) (ci := 7) (v := .ref (ad 46)) (C := R_Mo) (T := F_Mo) (N := 24) hx hb hts iw_Mo hown hK hP 29 rfl rfl 23 (by decide) (hts _ t_w290) (fun _ h9 => h9) rfl d_Mo_goesOn_12 ?_
          refine lv_iload_n hx hb d_Mo_goesOn_15 rfl (lv_at hl 1 rfl) ?_
          obtain ⟨hi, hv⟩ := hv
          refine va_iald hx hb hK hP 46 0 rfl rfl hi d_Mo_goesOn_16 ?_
          refine lv_aload_n hx hb d_Mo_goesOn_17 rfl (lv_at hl 0 rfl) ?_
          refine va_get (D := D) (ci := 7) (v := .int (σ 29 1)) (C := R_Mo) (T := F_Mo) (N := 24) hx hb hts iw_Mo hown hK hP 29 rfl rfl 1 (by decide) (hts _ t_w248) (fun _ h9 => h9) rfl d_Mo_goesOn_18 ?_
          refine lv_icmp_ne (tgt := 37) hx hb d_Mo_goesOn_21 (by decide) (fun hc => ?_) (fun hc => ?_)
          · replace hv := hv.1 hc
            exact j37 x1 σ τ _ _ _ hv hP hD hS (lv_sub hl [0, 1] rfl)
          · replace hv := hv.2 hc
            refine lv_aload_n hx hb d_Mo_goesOn_24 rfl (lv_at hl 0 rfl) ?_
            refine va_get (D := D) (ci := 7) (v := .ref (ad 46)) (C := R_Mo) (T := F_Mo) (N := 24) hx hb hts iw_Mo hown hK hP 29 rfl rfl 23 (by decide) (hts _ t_w290) (fun _ h9 => h9) rfl d_Mo_goesOn_25 ?_
            refine lv_iload_n hx hb d_Mo_goesOn_28 rfl (lv_at hl 1 rfl) ?_
            refine lv_iconst (v := 0) hx hb d_Mo_goesOn_29 (by decide) ?_
            obtain ⟨hi, hv⟩ := hv
            refine va_iast hx hb hK hP hD hS 46 0 rfl rfl hi d_Mo_goesOn_30 (fun H locs hP hD hS => ?_)
            rw [xa_46] at hP hD
            obtain ⟨s30, es30⟩ : ∃ z : MI, z = st2 σ 46 (Int32.toNatClampNeg x1) 0 := ⟨_, rfl⟩
            rw [← es30] at hP hD
            replace hv := hv s30 es30
            obtain ⟨y31, ey31⟩ : ∃ z : Int32, z = x1 + (-1) := ⟨_, rfl⟩
            replace hv := hv y31 ey31
            refine lv_iinc (v := y31) (lv' := [(1, .int y31), (0, .ref (ad 29))]) hx hb d_Mo_goesOn_31 hl (k := 1) rfl (by rw [ey31]; rfl) (by decide) rfl (fun ls hl => ?_)
            refine lv_goto (tgt := 7) hx hb d_Mo_goesOn_34 (by decide) ?_
            obtain ⟨hI, hm⟩ := hv
            exact ih y31 s30 τ _ _ _ (Nat.lt_of_lt_of_le hm (Nat.le_of_lt_succ hn)) hI hP hD hS (lv_sub hl [1, 0] rfl)
  have hv := v0 σ0 τ0 hpre
  unfold s_Mo_goesOn_0 at hv
  refine lv_aload_n hx hb d_Mo_goesOn_0 rfl (lv_at hl 0 rfl) ?_
  refine va_get (D := D) (ci := 7) (v := .int (σ0 29 10)) (C := R_Mo) (T := F_Mo) (N := 24) hx hb hts iw_Mo hown hK hP 29 rfl rfl 10 (by decide) (hts _ t_w249) (fun _ h9 => h9) rfl d_Mo_goesOn_1 ?_
  refine lv_iconst (v := 1) hx hb d_Mo_goesOn_4 (by decide) ?_
  refine lv_isub hx hb d_Mo_goesOn_5 ?_
  refine lv_topi (fun y6 ey6 => ?_)
  replace hv := hv y6 ey6
  refine lv_istore_n (lv' := [(1, .int y6), (0, .ref (ad 29))]) hx hb d_Mo_goesOn_6 rfl hl (by decide) rfl (fun ls hl => ?_)
  exact (hL _) y6 σ0 τ0 _ _ _ (Nat.lt_succ_self _) hv hP hD hS (lv_sub hl [1, 0] rfl)
theorem d_Mo_busy_0 : decode b_Mo_busy 0 = .ok (.iconst 0, 1) := by decide +kernel
theorem d_Mo_busy_1 : decode b_Mo_busy 1 = .ok (.istore_n 2, 1) := by decide +kernel
theorem d_Mo_busy_2 : decode b_Mo_busy 2 = .ok (.iconst 0, 1) := by decide +kernel
theorem d_Mo_busy_3 : decode b_Mo_busy 3 = .ok (.istore_n 3, 1) := by decide +kernel
theorem d_Mo_busy_4 : decode b_Mo_busy 4 = .ok (.iload_n 3, 1) := by decide +kernel
theorem d_Mo_busy_5 : decode b_Mo_busy 5 = .ok (.aload_n 0, 1) := by decide +kernel
theorem d_Mo_busy_6 : decode b_Mo_busy 6 = .ok (.getfield 68, 3) := by decide +kernel
theorem d_Mo_busy_9 : decode b_Mo_busy 9 = .ok (.if_icmp .ge 52, 3) := by decide +kernel
theorem d_Mo_busy_12 : decode b_Mo_busy 12 = .ok (.iload_n 2, 1) := by decide +kernel
theorem d_Mo_busy_13 : decode b_Mo_busy 13 = .ok (.aload_n 0, 1) := by decide +kernel
theorem d_Mo_busy_14 : decode b_Mo_busy 14 = .ok (.getfield 37, 3) := by decide +kernel
theorem d_Mo_busy_17 : decode b_Mo_busy 17 = .ok (.iload_n 3, 1) := by decide +kernel
theorem d_Mo_busy_18 : decode b_Mo_busy 18 = .ok (.iaload, 1) := by decide +kernel
theorem d_Mo_busy_19 : decode b_Mo_busy 19 = .ok (.aload_n 0, 1) := by decide +kernel
theorem d_Mo_busy_20 : decode b_Mo_busy 20 = .ok (.getfield 40, 3) := by decide +kernel
theorem d_Mo_busy_23 : decode b_Mo_busy 23 = .ok (.iload_n 1, 1) := by decide +kernel
theorem d_Mo_busy_24 : decode b_Mo_busy 24 = .ok (.iaload, 1) := by decide +kernel
theorem d_Mo_busy_25 : decode b_Mo_busy 25 = .ok (.if_icmp .ge 27, 3) := by decide +kernel
theorem d_Mo_busy_28 : decode b_Mo_busy 28 = .ok (.aload_n 0, 1) := by decide +kernel
theorem d_Mo_busy_29 : decode b_Mo_busy 29 = .ok (.getfield 37, 3) := by decide +kernel
theorem d_Mo_busy_32 : decode b_Mo_busy 32 = .ok (.iload_n 1, 1) := by decide +kernel
theorem d_Mo_busy_33 : decode b_Mo_busy 33 = .ok (.iaload, 1) := by decide +kernel
theorem d_Mo_busy_34 : decode b_Mo_busy 34 = .ok (.aload_n 0, 1) := by decide +kernel
theorem d_Mo_busy_35 : decode b_Mo_busy 35 = .ok (.getfield 40, 3) := by decide +kernel
theorem d_Mo_busy_38 : decode b_Mo_busy 38 = .ok (.iload_n 3, 1) := by decide +kernel
theorem d_Mo_busy_39 : decode b_Mo_busy 39 = .ok (.iaload, 1) := by decide +kernel
theorem d_Mo_busy_40 : decode b_Mo_busy 40 = .ok (.if_icmp .ge 12, 3) := by decide +kernel
theorem d_Mo_busy_43 : decode b_Mo_busy 43 = .ok (.aload_n 0, 1) := by decide +kernel
theorem d_Mo_busy_44 : decode b_Mo_busy 44 = .ok (.getfield 52, 3) := by decide +kernel
theorem d_Mo_busy_47 : decode b_Mo_busy 47 = .ok (.iload_n 3, 1) := by decide +kernel
theorem d_Mo_busy_48 : decode b_Mo_busy 48 = .ok (.iaload, 1) := by decide +kernel
theorem d_Mo_busy_49 : decode b_Mo_busy 49 = .ok (.goto 4, 3) := by decide +kernel
theorem d_Mo_busy_52 : decode b_Mo_busy 52 = .ok (.iconst 0, 1) := by decide +kernel
theorem d_Mo_busy_53 : decode b_Mo_busy 53 = .ok (.ior, 1) := by decide +kernel
theorem d_Mo_busy_54 : decode b_Mo_busy 54 = .ok (.istore_n 2, 1) := by decide +kernel
theorem d_Mo_busy_55 : decode b_Mo_busy 55 = .ok (.iinc 3 1, 3) := by decide +kernel
theorem d_Mo_busy_58 : decode b_Mo_busy 58 = .ok (.goto (-54), 3) := by decide +kernel
theorem d_Mo_busy_61 : decode b_Mo_busy 61 = .ok (.iload_n 2, 1) := by decide +kernel
theorem d_Mo_busy_62 : decode b_Mo_busy 62 = .ok (.ireturn, 1) := by decide +kernel
def s_Mo_busy_0 (σ : MI) (τ : ML) (a1 : Int32) (K4 : Int32 → Int32 → Int32 → MI → ML → Prop) (R : Int32 → MI → ML → Prop) : Prop :=
  K4 a1 0 0 σ τ
def s_Mo_busy_4 (σ : MI) (τ : ML) (x1 : Int32) (x2 : Int32) (x3 : Int32) (K4 : Int32 → Int32 → Int32 → MI → ML → Prop) (R : Int32 → MI → ML → Prop) : Prop :=
  ((σ 29 10) ≤ x3 →
  (R x2 σ τ)) ∧
  (¬ (σ 29 10) ≤ x3 →
  (vp_in x3 7 ∧ (vp_in x1 7 ∧ (((σ 40 (Int32.toNatClampNeg x1)) ≤ (σ 39 (Int32.toNatClampNeg x3)) →
    (∀ y54 : Int32, y54 = x2 ||| 0 → (∀ y55 : Int32, y55 = x3 + 1 → (K4 x1 y54 y55 σ τ)))) ∧
    (¬ (σ 40 (Int32.toNatClampNeg x1)) ≤ (σ 39 (Int32.toNatClampNeg x3)) →
    (vp_in x1 7 ∧ (vp_in x3 7 ∧ (((σ 40 (Int32.toNatClampNeg x3)) ≤ (σ 39 (Int32.toNatClampNeg x1)) →
      (∀ y54 : Int32, y54 = x2 ||| 0 → (∀ y55 : Int32, y55 = x3 + 1 → (K4 x1 y54 y55 σ τ)))) ∧
      (¬ (σ 40 (Int32.toNatClampNeg x3)) ≤ (σ 39 (Int32.toNatClampNeg x1)) →
      (vp_in x3 7 ∧ (∀ y54 : Int32, y54 = x2 ||| (σ 44 (Int32.toNatClampNeg x3)) → (∀ y55 : Int32, y55 = x3 + 1 → (K4 x1 y54 y55 σ τ)))))))))))))
set_option maxHeartbeats 4000000 in
set_option maxRecDepth 100000 in
theorem k_Mo_busy (l : Launch) (D : va_G) (ad : Nat → Nat) (ci cl : ClassId)
    (pre : MI → ML → Int32 → Prop) (post : MI → ML → Int32 → Int32 → MI → ML → Prop)
    (I4 : MI → ML → Int32 → Int32 → Int32 → Int32 → MI → ML → Prop) (m4 : MI → ML → Int32 → Int32 → Int32 → Int32 → MI → ML → Nat)
    (v0 : ∀ (σ0 : MI) (τ0 : ML) (a1 : Int32), pre σ0 τ0 a1 → s_Mo_busy_0 σ0 τ0 a1 (fun z0 z1 z2 σ9 τ9 => I4 σ0 τ0 a1 z0 z1 z2 σ9 τ9) (post σ0 τ0 a1))
    (v4 : ∀ (σ0 : MI) (τ0 : ML) (a1 : Int32) (x1 : Int32) (x2 : Int32) (x3 : Int32) (σ : MI) (τ : ML), I4 σ0 τ0 a1 x1 x2 x3 σ τ → s_Mo_busy_4 σ τ x1 x2 x3 (fun z0 z1 z2 σ9 τ9 => I4 σ0 τ0 a1 z0 z1 z2 σ9 τ9 ∧ m4 σ0 τ0 a1 z0 z1 z2 σ9 τ9 < m4 σ0 τ0 a1 x1 x2 x3 σ τ) (post σ0 τ0 a1)) :
    ∀ (sz : Nat) (σ0 : MI) (τ0 : ML) (a1 : Int32), pre σ0 τ0 a1 → gMi l D (xw ad ci cl) (xt ci cl) (xa ad) y_Mo_busy w_Mo_busy rm_Mo_busy [.ref (ad 29), .int a1] sz σ0 τ0 (post σ0 τ0 a1) := by
  intro sz σ0 τ0 a1 hpre
  refine gk_ofWi (cc := b_Mo_busy) (maxL := 4) (ret := (some .int)) (by decide) rfl xa_ok (Nat.le_of_ble_eq_true rfl) ?_
  intro p e s m below meth c ls hx hb hr hlocks hml hown hts hK hP hD hS hl
  have hl : lv_has ls 4 [(0, .ref (ad 29)), (1, .int a1)] := hl
  have hown : s.vm.findClass R_Mo = some m.cls := hown
  have hL : ∀ n : Nat, (∀ (x1 : Int32) (x2 : Int32) (x3 : Int32) (σ : MI) (τ : ML) (H : Heap) (locs : List Loc) (ls : Array Slot), m4 σ0 τ0 a1 x1 x2 x3 σ τ < n → I4 σ0 τ0 a1 x1 x2 x3 σ τ → va_P D classes ((xw ad ci cl) σ τ) H → va_D (gA (xa ad) s.heap.size) ((xw ad ci cl) σ τ) → va_S (gA (xa ad) s.heap.size) s.heap H locs → lv_has ls 4 [(0, .ref (ad 29)), (1, .int x1), (2, .int x2), (3, .int x3)] → W p l e rm_Mo_busy s m [.ref (ad 29), .int a1].toArray below meth c H locs 0 0 (gQi D (xw ad ci cl) (xt ci cl) (xa ad) below [.ref (ad 29), .int a1] s (post σ0 τ0 a1)) (F0 m 4 ls [])) := by
    intro n
    induction n with
    | zero => exact fun _ _ _ _ _ _ _ _ hn => absurd hn (Nat.not_lt_zero _)
    | succ n ih =>
      · intro x1 x2 x3 σ τ H locs ls hn hI hP hD hS hl
        have hv := v4 σ0 τ0 a1 x1 x2 x3 σ τ hI
        unfold s_Mo_busy_4 at hv
        refine lv_iload_n hx hb d_Mo_busy_4 rfl (lv_at hl 3 rfl) ?_
        refine lv_aload_n hx hb d_Mo_busy_5 rfl (lv_at hl 0 rfl) ?_
        refine va_get (D := D) (ci := 7) (v := .int (σ 29 10)) (C := R_Mo) (T := F_Mo) (N := 24) hx hb hts iw_Mo hown hK hP 29 rfl rfl 10 (by decide) (hts _ t_w249) (fun _ h9 => h9) rfl d_Mo_busy_6 ?_
        refine lv_icmp_ge (tgt := 61) hx hb d_Mo_busy_9 (by decide) (fun hc => ?_) (fun hc => ?_)
        · replace hv := hv.1 hc
          refine lv_iload_n hx hb d_Mo_busy_61 rfl (lv_at hl 2 rfl) ?_
          exact gk_iret hx hb hr hlocks hK hP hD hS hv d_Mo_busy_62
        · replace hv := hv.2 hc
          refine lv_iload_n hx hb d_Mo_busy_12 rfl (lv_at hl 2 rfl) ?_
          refine lv_aload_n hx hb d_Mo_busy_13 rfl (lv_at hl 0 rfl) ?_
          refine va_get (D := D) (ci := 7) (v := .ref (ad 39)) (C := R_Mo) (T := F_Mo) (N := 24) hx hb hts iw_Mo hown hK hP 29 rfl rfl 13 (by decide) (hts _ t_w273) (fun _ h9 => h9) rfl d_Mo_busy_14 ?_
          refine lv_iload_n hx hb d_Mo_busy_17 rfl (lv_at hl 3 rfl) ?_
          obtain ⟨hi, hv⟩ := hv
          refine va_iald hx hb hK hP 39 0 rfl rfl hi d_Mo_busy_18 ?_
          refine lv_aload_n hx hb d_Mo_busy_19 rfl (lv_at hl 0 rfl) ?_
          refine va_get (D := D) (ci := 7) (v := .ref (ad 40)) (C := R_Mo) (T := F_Mo) (N := 24) hx hb hts iw_Mo hown hK hP 29 rfl rfl 14 (by decide) (hts _ t_w274) (fun _ h9 => h9) rfl d_Mo_busy_20 ?_
          refine lv_iload_n hx hb d_Mo_busy_23 rfl (lv_at hl 1 rfl) ?_
          obtain ⟨hi, hv⟩ := hv
          refine va_iald hx hb hK hP 40 0 rfl rfl hi d_Mo_busy_24 ?_
          refine lv_icmp_ge (tgt := 52) hx hb d_Mo_busy_25 (by decide) (fun hc => ?_) (fun hc => ?_)
          · replace hv := hv.1 hc
            refine lv_iconst (v := 0) hx hb d_Mo_busy_52 (by decide) ?_
            refine lv_ior hx hb d_Mo_busy_53 ?_
            refine lv_topi (fun y54 ey54 => ?_)
            replace hv := hv y54 ey54
            refine lv_istore_n (lv' := [(2, .int y54), (0, .ref (ad 29)), (1, .int x1), (3, .int x3)]) hx hb d_Mo_busy_54 rfl hl (by decide) rfl (fun ls hl => ?_)
            obtain ⟨y55, ey55⟩ : ∃ z : Int32, z = x3 + 1 := ⟨_, rfl⟩
            replace hv := hv y55 ey55
            refine lv_iinc (v := y55) (lv' := [(3, .int y55), (2, .int y54), (0, .ref (ad 29)), (1, .int x1)]) hx hb d_Mo_busy_55 hl (k := 3) rfl (by rw [ey55]; rfl) (by decide) rfl (fun ls hl => ?_)
            refine lv_goto (tgt := 4) hx hb d_Mo_busy_58 (by decide) ?_
            obtain ⟨hI, hm⟩ := hv
            exact ih x1 y54 y55 σ τ _ _ _ (Nat.lt_of_lt_of_le hm (Nat.le_of_lt_succ hn)) hI hP hD hS (lv_sub hl [2, 3, 1, 0] rfl)
          · replace hv := hv.2 hc
            refine lv_aload_n hx hb d_Mo_busy_28 rfl (lv_at hl 0 rfl) ?_
            refine va_get (D := D) (ci := 7) (v := .ref (ad 39)) (C := R_Mo) (T := F_Mo) (N := 24) hx hb hts iw_Mo hown hK hP 29 rfl rfl 13 (by decide) (hts _ t_w273) (fun _ h9 => h9) rfl d_Mo_busy_29 ?_
            refine lv_iload_n hx hb d_Mo_busy_32 rfl (lv_at hl 1 rfl) ?_
            obtain ⟨hi, hv⟩ := hv
            refine va_iald hx hb hK hP 39 0 rfl rfl hi d_Mo_busy_33 ?_
            refine lv_aload_n hx hb d_Mo_busy_34 rfl (lv_at hl 0 rfl) ?_
            refine va_get (D := D) (ci := 7) (v := .ref (ad 40)) (C := R_Mo) (T := F_Mo) (N := 24) hx hb hts iw_Mo hown hK hP 29 rfl rfl 14 (by decide) (hts _ t_w274) (fun _ h9 => h9) rfl d_Mo_busy_35 ?_
            refine lv_iload_n hx hb d_Mo_busy_38 rfl (lv_at hl 3 rfl) ?_
            obtain ⟨hi, hv⟩ := hv
            refine va_iald hx hb hK hP 40 0 rfl rfl hi d_Mo_busy_39 ?_
            refine lv_icmp_ge (tgt := 52) hx hb d_Mo_busy_40 (by decide) (fun hc => ?_) (fun hc => ?_)
            · replace hv := hv.1 hc
              refine lv_iconst (v := 0) hx hb d_Mo_busy_52 (by decide) ?_
              refine lv_ior hx hb d_Mo_busy_53 ?_
              refine lv_topi (fun y54 ey54 => ?_)
              replace hv := hv y54 ey54
              refine lv_istore_n (lv' := [(2, .int y54), (0, .ref (ad 29)), (1, .int x1), (3, .int x3)]) hx hb d_Mo_busy_54 rfl hl (by decide) rfl (fun ls hl => ?_)
              obtain ⟨y55, ey55⟩ : ∃ z : Int32, z = x3 + 1 := ⟨_, rfl⟩
              replace hv := hv y55 ey55
              refine lv_iinc (v := y55) (lv' := [(3, .int y55), (2, .int y54), (0, .ref (ad 29)), (1, .int x1)]) hx hb d_Mo_busy_55 hl (k := 3) rfl (by rw [ey55]; rfl) (by decide) rfl (fun ls hl => ?_)
              refine lv_goto (tgt := 4) hx hb d_Mo_busy_58 (by decide) ?_
              obtain ⟨hI, hm⟩ := hv
              exact ih x1 y54 y55 σ τ _ _ _ (Nat.lt_of_lt_of_le hm (Nat.le_of_lt_succ hn)) hI hP hD hS (lv_sub hl [2, 3, 1, 0] rfl)
            · replace hv := hv.2 hc
              refine lv_aload_n hx hb d_Mo_busy_43 rfl (lv_at hl 0 rfl) ?_
              refine va_get (D := D) (ci := 7) (v := .ref (ad 44)) (C := R_Mo) (T := F_Mo) (N := 24) hx hb hts iw_Mo hown hK hP 29 rfl rfl 20 (by decide) (hts _ t_w296) (fun _ h9 => h9) rfl d_Mo_busy_44 ?_
              refine lv_iload_n hx hb d_Mo_busy_47 rfl (lv_at hl 3 rfl) ?_
              obtain ⟨hi, hv⟩ := hv
              refine va_iald hx hb hK hP 44 0 rfl rfl hi d_Mo_busy_48 ?_
              refine lv_goto (tgt := 53) hx hb d_Mo_busy_49 (by decide) ?_
              refine lv_ior hx hb d_Mo_busy_53 ?_
              refine lv_topi (fun y54 ey54 => ?_)
              replace hv := hv y54 ey54
              refine lv_istore_n (lv' := [(2, .int y54), (0, .ref (ad 29)), (1, .int x1), (3, .int x3)]) hx hb d_Mo_busy_54 rfl hl (by decide) rfl (fun ls hl => ?_)
              obtain ⟨y55, ey55⟩ : ∃ z : Int32, z = x3 + 1 := ⟨_, rfl⟩
              replace hv := hv y55 ey55
              refine lv_iinc (v := y55) (lv' := [(3, .int y55), (2, .int y54), (0, .ref (ad 29)), (1, .int x1)]) hx hb d_Mo_busy_55 hl (k := 3) rfl (by rw [ey55]; rfl) (by decide) rfl (fun ls hl => ?_)
              refine lv_goto (tgt := 4) hx hb d_Mo_busy_58 (by decide) ?_
              obtain ⟨hI, hm⟩ := hv
              exact ih x1 y54 y55 σ τ _ _ _ (Nat.lt_of_lt_of_le hm (Nat.le_of_lt_succ hn)) hI hP hD hS (lv_sub hl [2, 3, 1, 0] rfl)
  have hv := v0 σ0 τ0 a1 hpre
  unfold s_Mo_busy_0 at hv
  refine lv_iconst (v := 0) hx hb d_Mo_busy_0 (by decide) ?_
  refine lv_istore_n (lv' := [(2, .int 0), (0, .ref (ad 29)), (1, .int a1)]) hx hb d_Mo_busy_1 rfl hl (by decide) rfl (fun ls hl => ?_)
  refine lv_iconst (v := 0) hx hb d_Mo_busy_2 (by decide) ?_
  refine lv_istore_n (lv' := [(3, .int 0), (2, .int 0), (0, .ref (ad 29)), (1, .int a1)]) hx hb d_Mo_busy_3 rfl hl (by decide) rfl (fun ls hl => ?_)
  exact (hL _) a1 0 0 σ0 τ0 _ _ _ (Nat.lt_succ_self _) hv hP hD hS (lv_sub hl [2, 3, 1, 0] rfl)
theorem d_Mo_together_0 : decode b_Mo_together 0 = .ok (.iconst 0, 1) := by decide +kernel
theorem d_Mo_together_1 : decode b_Mo_together 1 = .ok (.istore_n 2, 1) := by decide +kernel
theorem d_Mo_together_2 : decode b_Mo_together 2 = .ok (.iconst 0, 1) := by decide +kernel
theorem d_Mo_together_3 : decode b_Mo_together 3 = .ok (.istore_n 3, 1) := by decide +kernel
theorem d_Mo_together_4 : decode b_Mo_together 4 = .ok (.iload_n 3, 1) := by decide +kernel
theorem d_Mo_together_5 : decode b_Mo_together 5 = .ok (.aload_n 0, 1) := by decide +kernel
theorem d_Mo_together_6 : decode b_Mo_together 6 = .ok (.getfield 91, 3) := by decide +kernel
theorem d_Mo_together_9 : decode b_Mo_together 9 = .ok (.if_icmp .ge 31, 3) := by decide +kernel
theorem d_Mo_together_12 : decode b_Mo_together 12 = .ok (.iload_n 2, 1) := by decide +kernel
theorem d_Mo_together_13 : decode b_Mo_together 13 = .ok (.iload_n 1, 1) := by decide +kernel
theorem d_Mo_together_14 : decode b_Mo_together 14 = .ok (.iload_n 3, 1) := by decide +kernel
theorem d_Mo_together_15 : decode b_Mo_together 15 = .ok (.ishr, 1) := by decide +kernel
theorem d_Mo_together_16 : decode b_Mo_together 16 = .ok (.iconst 1, 1) := by decide +kernel
theorem d_Mo_together_17 : decode b_Mo_together 17 = .ok (.iand, 1) := by decide +kernel
theorem d_Mo_together_18 : decode b_Mo_together 18 = .ok (.iconst 1, 1) := by decide +kernel
theorem d_Mo_together_19 : decode b_Mo_together 19 = .ok (.if_icmp .ne 12, 3) := by decide +kernel
theorem d_Mo_together_22 : decode b_Mo_together 22 = .ok (.aload_n 0, 1) := by decide +kernel
theorem d_Mo_together_23 : decode b_Mo_together 23 = .ok (.getfield 28, 3) := by decide +kernel
theorem d_Mo_together_26 : decode b_Mo_together 26 = .ok (.iload_n 3, 1) := by decide +kernel
theorem d_Mo_together_27 : decode b_Mo_together 27 = .ok (.iaload, 1) := by decide +kernel
theorem d_Mo_together_28 : decode b_Mo_together 28 = .ok (.goto 4, 3) := by decide +kernel
theorem d_Mo_together_31 : decode b_Mo_together 31 = .ok (.iconst 0, 1) := by decide +kernel
theorem d_Mo_together_32 : decode b_Mo_together 32 = .ok (.iadd, 1) := by decide +kernel
theorem d_Mo_together_33 : decode b_Mo_together 33 = .ok (.istore_n 2, 1) := by decide +kernel
theorem d_Mo_together_34 : decode b_Mo_together 34 = .ok (.iinc 3 1, 3) := by decide +kernel
theorem d_Mo_together_37 : decode b_Mo_together 37 = .ok (.goto (-33), 3) := by decide +kernel
theorem d_Mo_together_40 : decode b_Mo_together 40 = .ok (.iload_n 2, 1) := by decide +kernel
theorem d_Mo_together_41 : decode b_Mo_together 41 = .ok (.ireturn, 1) := by decide +kernel
def s_Mo_together_0 (σ : MI) (τ : ML) (a1 : Int32) (K4 : Int32 → Int32 → Int32 → MI → ML → Prop) (R : Int32 → MI → ML → Prop) : Prop :=
  K4 a1 0 0 σ τ
def s_Mo_together_4 (σ : MI) (τ : ML) (x1 : Int32) (x2 : Int32) (x3 : Int32) (K4 : Int32 → Int32 → Int32 → MI → ML → Prop) (R : Int32 → MI → ML → Prop) : Prop :=
  ((σ 29 8) ≤ x3 →
  (R x2 σ τ)) ∧
  (¬ (σ 29 8) ≤ x3 →
  ((¬ ((x1 >>> (x3 &&& 31)) &&& 1) = 1 →
    (∀ y33 : Int32, y33 = x2 + 0 → (∀ y34 : Int32, y34 = x3 + 1 → (K4 x1 y33 y34 σ τ)))) ∧
    (((x1 >>> (x3 &&& 31)) &&& 1) = 1 →
    (vp_in x3 6 ∧ (∀ y33 : Int32, y33 = x2 + (σ 36 (Int32.toNatClampNeg x3)) → (∀ y34 : Int32, y34 = x3 + 1 → (K4 x1 y33 y34 σ τ)))))))
set_option maxHeartbeats 4000000 in
set_option maxRecDepth 100000 in
theorem k_Mo_together (l : Launch) (D : va_G) (ad : Nat → Nat) (ci cl : ClassId)
    (pre : MI → ML → Int32 → Prop) (post : MI → ML → Int32 → Int32 → MI → ML → Prop)
    (I4 : MI → ML → Int32 → Int32 → Int32 → Int32 → MI → ML → Prop) (m4 : MI → ML → Int32 → Int32 → Int32 → Int32 → MI → ML → Nat)
    (v0 : ∀ (σ0 : MI) (τ0 : ML) (a1 : Int32), pre σ0 τ0 a1 → s_Mo_together_0 σ0 τ0 a1 (fun z0 z1 z2 σ9 τ9 => I4 σ0 τ0 a1 z0 z1 z2 σ9 τ9) (post σ0 τ0 a1))
    (v4 : ∀ (σ0 : MI) (τ0 : ML) (a1 : Int32) (x1 : Int32) (x2 : Int32) (x3 : Int32) (σ : MI) (τ : ML), I4 σ0 τ0 a1 x1 x2 x3 σ τ → s_Mo_together_4 σ τ x1 x2 x3 (fun z0 z1 z2 σ9 τ9 => I4 σ0 τ0 a1 z0 z1 z2 σ9 τ9 ∧ m4 σ0 τ0 a1 z0 z1 z2 σ9 τ9 < m4 σ0 τ0 a1 x1 x2 x3 σ τ) (post σ0 τ0 a1)) :
    ∀ (sz : Nat) (σ0 : MI) (τ0 : ML) (a1 : Int32), pre σ0 τ0 a1 → gMi l D (xw ad ci cl) (xt ci cl) (xa ad) y_Mo_together w_Mo_together rm_Mo_together [.ref (ad 29), .int a1] sz σ0 τ0 (post σ0 τ0 a1) := by
  intro sz σ0 τ0 a1 hpre
  refine gk_ofWi (cc := b_Mo_together) (maxL := 4) (ret := (some .int)) (by decide) rfl xa_ok (Nat.le_of_ble_eq_true rfl) ?_
  intro p e s m below meth c ls hx hb hr hlocks hml hown hts hK hP hD hS hl
  have hl : lv_has ls 4 [(0, .ref (ad 29)), (1, .int a1)] := hl
  have hown : s.vm.findClass R_Mo = some m.cls := hown
  have hL : ∀ n : Nat, (∀ (x1 : Int32) (x2 : Int32) (x3 : Int32) (σ : MI) (τ : ML) (H : Heap) (locs : List Loc) (ls : Array Slot), m4 σ0 τ0 a1 x1 x2 x3 σ τ < n → I4 σ0 τ0 a1 x1 x2 x3 σ τ → va_P D classes ((xw ad ci cl) σ τ) H → va_D (gA (xa ad) s.heap.size) ((xw ad ci cl) σ τ) → va_S (gA (xa ad) s.heap.size) s.heap H locs → lv_has ls 4 [(0, .ref (ad 29)), (1, .int x1), (2, .int x2), (3, .int x3)] → W p l e rm_Mo_together s m [.ref (ad 29), .int a1].toArray below meth c H locs 0 0 (gQi D (xw ad ci cl) (xt ci cl) (xa ad) below [.ref (ad 29), .int a1] s (post σ0 τ0 a1)) (F0 m 4 ls [])) := by
    intro n
    induction n with
    | zero => exact fun _ _ _ _ _ _ _ _ hn => absurd hn (Nat.not_lt_zero _)
    | succ n ih =>
      · intro x1 x2 x3 σ τ H locs ls hn hI hP hD hS hl
        have hv := v4 σ0 τ0 a1 x1 x2 x3 σ τ hI
        unfold s_Mo_together_4 at hv
        refine lv_iload_n hx hb d_Mo_together_4 rfl (lv_at hl 3 rfl) ?_
        refine lv_aload_n hx hb d_Mo_together_5 rfl (lv_at hl 0 rfl) ?_
        refine va_get (D := D) (ci := 7) (v := .int (σ 29 8)) (C := R_Mo) (T := F_Mo) (N := 24) hx hb hts iw_Mo hown hK hP 29 rfl rfl 8 (by decide) (hts _ t_w269) (fun _ h9 => h9) rfl d_Mo_together_6 ?_
        refine lv_icmp_ge (tgt := 40) hx hb d_Mo_together_9 (by decide) (fun hc => ?_) (fun hc => ?_)
        · replace hv := hv.1 hc
          refine lv_iload_n hx hb d_Mo_together_40 rfl (lv_at hl 2 rfl) ?_
          exact gk_iret hx hb hr hlocks hK hP hD hS hv d_Mo_together_41
        · replace hv := hv.2 hc
          refine lv_iload_n hx hb d_Mo_together_12 rfl (lv_at hl 2 rfl) ?_
          refine lv_iload_n hx hb d_Mo_together_13 rfl (lv_at hl 1 rfl) ?_
          refine lv_iload_n hx hb d_Mo_together_14 rfl (lv_at hl 3 rfl) ?_
          refine lv_ishr hx hb d_Mo_together_15 ?_
          refine lv_iconst (v := 1) hx hb d_Mo_together_16 (by decide) ?_
          refine lv_iand hx hb d_Mo_together_17 ?_
          refine lv_iconst (v := 1) hx hb d_Mo_together_18 (by decide) ?_
          refine lv_icmp_ne (tgt := 31) hx hb d_Mo_together_19 (by decide) (fun hc => ?_) (fun hc => ?_)
          · replace hv := hv.1 hc
            refine lv_iconst (v := 0) hx hb d_Mo_together_31 (by decide) ?_
            refine lv_iadd hx hb d_Mo_together_32 ?_
            refine lv_topi (fun y33 ey33 => ?_)
            replace hv := hv y33 ey33
            refine lv_istore_n (lv' := [(2, .int y33), (0, .ref (ad 29)), (1, .int x1), (3, .int x3)]) hx hb d_Mo_together_33 rfl hl (by decide) rfl (fun ls hl => ?_)
            obtain ⟨y34, ey34⟩ : ∃ z : Int32, z = x3 + 1 := ⟨_, rfl⟩
            replace hv := hv y34 ey34
            refine lv_iinc (v := y34) (lv' := [(3, .int y34), (2, .int y33), (0, .ref (ad 29)), (1, .int x1)]) hx hb d_Mo_together_34 hl (k := 3) rfl (by rw [ey34]; rfl) (by decide) rfl (fun ls hl => ?_)
            refine lv_goto (tgt := 4) hx hb d_Mo_together_37 (by decide) ?_
            obtain ⟨hI, hm⟩ := hv
            exact ih x1 y33 y34 σ τ _ _ _ (Nat.lt_of_lt_of_le hm (Nat.le_of_lt_succ hn)) hI hP hD hS (lv_sub hl [2, 3, 1, 0] rfl)
          · replace hv := hv.2 hc
            refine lv_aload_n hx hb d_Mo_together_22 rfl (lv_at hl 0 rfl) ?_
            refine va_get (D := D) (ci := 7) (v := .ref (ad 36)) (C := R_Mo) (T := F_Mo) (N := 24) hx hb hts iw_Mo hown hK hP 29 rfl rfl 9 (by decide) (hts _ t_w270) (fun _ h9 => h9) rfl d_Mo_together_23 ?_
            refine lv_iload_n hx hb d_Mo_together_26 rfl (lv_at hl 3 rfl) ?_
            obtain ⟨hi, hv⟩ := hv
            refine va_iald hx hb hK hP 36 0 rfl rfl hi d_Mo_together_27 ?_
            refine lv_goto (tgt := 32) hx hb d_Mo_together_28 (by decide) ?_
            refine lv_iadd hx hb d_Mo_together_32 ?_
            refine lv_topi (fun y33 ey33 => ?_)
            replace hv := hv y33 ey33
            refine lv_istore_n (lv' := [(2, .int y33), (0, .ref (ad 29)), (1, .int x1), (3, .int x3)]) hx hb d_Mo_together_33 rfl hl (by decide) rfl (fun ls hl => ?_)
            obtain ⟨y34, ey34⟩ : ∃ z : Int32, z = x3 + 1 := ⟨_, rfl⟩
            replace hv := hv y34 ey34
            refine lv_iinc (v := y34) (lv' := [(3, .int y34), (2, .int y33), (0, .ref (ad 29)), (1, .int x1)]) hx hb d_Mo_together_34 hl (k := 3) rfl (by rw [ey34]; rfl) (by decide) rfl (fun ls hl => ?_)
            refine lv_goto (tgt := 4) hx hb d_Mo_together_37 (by decide) ?_
            obtain ⟨hI, hm⟩ := hv
            exact ih x1 y33 y34 σ τ _ _ _ (Nat.lt_of_lt_of_le hm (Nat.le_of_lt_succ hn)) hI hP hD hS (lv_sub hl [2, 3, 1, 0] rfl)
  have hv := v0 σ0 τ0 a1 hpre
  unfold s_Mo_together_0 at hv
  refine lv_iconst (v := 0) hx hb d_Mo_together_0 (by decide) ?_
  refine lv_istore_n (lv' := [(2, .int 0), (0, .ref (ad 29)), (1, .int a1)]) hx hb d_Mo_together_1 rfl hl (by decide) rfl (fun ls hl => ?_)
  refine lv_iconst (v := 0) hx hb d_Mo_together_2 (by decide) ?_
  refine lv_istore_n (lv' := [(3, .int 0), (2, .int 0), (0, .ref (ad 29)), (1, .int a1)]) hx hb d_Mo_together_3 rfl hl (by decide) rfl (fun ls hl => ?_)
  exact (hL _) a1 0 0 σ0 τ0 _ _ _ (Nat.lt_succ_self _) hv hP hD hS (lv_sub hl [2, 3, 1, 0] rfl)
theorem d_Mo_many_0 : decode b_Mo_many 0 = .ok (.iconst 0, 1) := by decide +kernel
theorem d_Mo_many_1 : decode b_Mo_many 1 = .ok (.istore_n 2, 1) := by decide +kernel
theorem d_Mo_many_2 : decode b_Mo_many 2 = .ok (.iconst 0, 1) := by decide +kernel
theorem d_Mo_many_3 : decode b_Mo_many 3 = .ok (.istore_n 3, 1) := by decide +kernel
theorem d_Mo_many_4 : decode b_Mo_many 4 = .ok (.iload_n 3, 1) := by decide +kernel
theorem d_Mo_many_5 : decode b_Mo_many 5 = .ok (.aload_n 0, 1) := by decide +kernel
theorem d_Mo_many_6 : decode b_Mo_many 6 = .ok (.getfield 91, 3) := by decide +kernel
theorem d_Mo_many_9 : decode b_Mo_many 9 = .ok (.if_icmp .ge 17, 3) := by decide +kernel
theorem d_Mo_many_12 : decode b_Mo_many 12 = .ok (.iload_n 2, 1) := by decide +kernel
theorem d_Mo_many_13 : decode b_Mo_many 13 = .ok (.iload_n 1, 1) := by decide +kernel
theorem d_Mo_many_14 : decode b_Mo_many 14 = .ok (.iload_n 3, 1) := by decide +kernel
theorem d_Mo_many_15 : decode b_Mo_many 15 = .ok (.ishr, 1) := by decide +kernel
theorem d_Mo_many_16 : decode b_Mo_many 16 = .ok (.iconst 1, 1) := by decide +kernel
theorem d_Mo_many_17 : decode b_Mo_many 17 = .ok (.iand, 1) := by decide +kernel
theorem d_Mo_many_18 : decode b_Mo_many 18 = .ok (.iadd, 1) := by decide +kernel
theorem d_Mo_many_19 : decode b_Mo_many 19 = .ok (.istore_n 2, 1) := by decide +kernel
theorem d_Mo_many_20 : decode b_Mo_many 20 = .ok (.iinc 3 1, 3) := by decide +kernel
theorem d_Mo_many_23 : decode b_Mo_many 23 = .ok (.goto (-19), 3) := by decide +kernel
theorem d_Mo_many_26 : decode b_Mo_many 26 = .ok (.iload_n 2, 1) := by decide +kernel
theorem d_Mo_many_27 : decode b_Mo_many 27 = .ok (.ireturn, 1) := by decide +kernel
def s_Mo_many_0 (σ : MI) (τ : ML) (a1 : Int32) (K4 : Int32 → Int32 → Int32 → MI → ML → Prop) (R : Int32 → MI → ML → Prop) : Prop :=
  K4 a1 0 0 σ τ
def s_Mo_many_4 (σ : MI) (τ : ML) (x1 : Int32) (x2 : Int32) (x3 : Int32) (K4 : Int32 → Int32 → Int32 → MI → ML → Prop) (R : Int32 → MI → ML → Prop) : Prop :=
  ((σ 29 8) ≤ x3 →
  (R x2 σ τ)) ∧
  (¬ (σ 29 8) ≤ x3 →
  (∀ y19 : Int32, y19 = x2 + ((x1 >>> (x3 &&& 31)) &&& 1) → (∀ y20 : Int32, y20 = x3 + 1 → (K4 x1 y19 y20 σ τ))))
set_option maxHeartbeats 4000000 in
set_option maxRecDepth 100000 in
theorem k_Mo_many (l : Launch) (D : va_G) (ad : Nat → Nat) (ci cl : ClassId)
    (pre : MI → ML → Int32 → Prop) (post : MI → ML → Int32 → Int32 → MI → ML → Prop)
    (I4 : MI → ML → Int32 → Int32 → Int32 → Int32 → MI → ML → Prop) (m4 : MI → ML → Int32 → Int32 → Int32 → Int32 → MI → ML → Nat)
    (v0 : ∀ (σ0 : MI) (τ0 : ML) (a1 : Int32), pre σ0 τ0 a1 → s_Mo_many_0 σ0 τ0 a1 (fun z0 z1 z2 σ9 τ9 => I4 σ0 τ0 a1 z0 z1 z2 σ9 τ9) (post σ0 τ0 a1))
    (v4 : ∀ (σ0 : MI) (τ0 : ML) (a1 : Int32) (x1 : Int32) (x2 : Int32) (x3 : Int32) (σ : MI) (τ : ML), I4 σ0 τ0 a1 x1 x2 x3 σ τ → s_Mo_many_4 σ τ x1 x2 x3 (fun z0 z1 z2 σ9 τ9 => I4 σ0 τ0 a1 z0 z1 z2 σ9 τ9 ∧ m4 σ0 τ0 a1 z0 z1 z2 σ9 τ9 < m4 σ0 τ0 a1 x1 x2 x3 σ τ) (post σ0 τ0 a1)) :
    ∀ (sz : Nat) (σ0 : MI) (τ0 : ML) (a1 : Int32), pre σ0 τ0 a1 → gMi l D (xw ad ci cl) (xt ci cl) (xa ad) y_Mo_many w_Mo_many rm_Mo_many [.ref (ad 29), .int a1] sz σ0 τ0 (post σ0 τ0 a1) := by
  intro sz σ0 τ0 a1 hpre
  refine gk_ofWi (cc := b_Mo_many) (maxL := 4) (ret := (some .int)) (by decide) rfl xa_ok (Nat.le_of_ble_eq_true rfl) ?_
  intro p e s m below meth c ls hx hb hr hlocks hml hown hts hK hP hD hS hl
  have hl : lv_has ls 4 [(0, .ref (ad 29)), (1, .int a1)] := hl
  have hown : s.vm.findClass R_Mo = some m.cls := hown
  have hL : ∀ n : Nat, (∀ (x1 : Int32) (x2 : Int32) (x3 : Int32) (σ : MI) (τ : ML) (H : Heap) (locs : List Loc) (ls : Array Slot), m4 σ0 τ0 a1 x1 x2 x3 σ τ < n → I4 σ0 τ0 a1 x1 x2 x3 σ τ → va_P D classes ((xw ad ci cl) σ τ) H → va_D (gA (xa ad) s.heap.size) ((xw ad ci cl) σ τ) → va_S (gA (xa ad) s.heap.size) s.heap H locs → lv_has ls 4 [(0, .ref (ad 29)), (1, .int x1), (2, .int x2), (3, .int x3)] → W p l e rm_Mo_many s m [.ref (ad 29), .int a1].toArray below meth c H locs 0 0 (gQi D (xw ad ci cl) (xt ci cl) (xa ad) below [.ref (ad 29), .int a1] s (post σ0 τ0 a1)) (F0 m 4 ls [])) := by
    intro n
    induction n with
    | zero => exact fun _ _ _ _ _ _ _ _ hn => absurd hn (Nat.not_lt_zero _)
    | succ n ih =>
      · intro x1 x2 x3 σ τ H locs ls hn hI hP hD hS hl
        have hv := v4 σ0 τ0 a1 x1 x2 x3 σ τ hI
        unfold s_Mo_many_4 at hv
        refine lv_iload_n hx hb d_Mo_many_4 rfl (lv_at hl 3 rfl) ?_
        refine lv_aload_n hx hb d_Mo_many_5 rfl (lv_at hl 0 rfl) ?_
        refine va_get (D := D) (ci := 7) (v := .int (σ 29 8)) (C := R_Mo) (T := F_Mo) (N := 24) hx hb hts iw_Mo hown hK hP 29 rfl rfl 8 (by decide) (hts _ t_w269) (fun _ h9 => h9) rfl d_Mo_many_6 ?_
        refine lv_icmp_ge (tgt := 26) hx hb d_Mo_many_9 (by decide) (fun hc => ?_) (fun hc => ?_)
        · replace hv := hv.1 hc
          refine lv_iload_n hx hb d_Mo_many_26 rfl (lv_at hl 2 rfl) ?_
          exact gk_iret hx hb hr hlocks hK hP hD hS hv d_Mo_many_27
        · replace hv := hv.2 hc
          refine lv_iload_n hx hb d_Mo_many_12 rfl (lv_at hl 2 rfl) ?_
          refine lv_iload_n hx hb d_Mo_many_13 rfl (lv_at hl 1 rfl) ?_
          refine lv_iload_n hx hb d_Mo_many_14 rfl (lv_at hl 3 rfl) ?_
          refine lv_ishr hx hb d_Mo_many_15 ?_
          refine lv_iconst (v := 1) hx hb d_Mo_many_16 (by decide) ?_
          refine lv_iand hx hb d_Mo_many_17 ?_
          refine lv_iadd hx hb d_Mo_many_18 ?_
          refine lv_topi (fun y19 ey19 => ?_)
          replace hv := hv y19 ey19
          refine lv_istore_n (lv' := [(2, .int y19), (0, .ref (ad 29)), (1, .int x1), (3, .int x3)]) hx hb d_Mo_many_19 rfl hl (by decide) rfl (fun ls hl => ?_)
          obtain ⟨y20, ey20⟩ : ∃ z : Int32, z = x3 + 1 := ⟨_, rfl⟩
          replace hv := hv y20 ey20
          refine lv_iinc (v := y20) (lv' := [(3, .int y20), (2, .int y19), (0, .ref (ad 29)), (1, .int x1)]) hx hb d_Mo_many_20 hl (k := 3) rfl (by rw [ey20]; rfl) (by decide) rfl (fun ls hl => ?_)
          refine lv_goto (tgt := 4) hx hb d_Mo_many_23 (by decide) ?_
          obtain ⟨hI, hm⟩ := hv
          exact ih x1 y19 y20 σ τ _ _ _ (Nat.lt_of_lt_of_le hm (Nat.le_of_lt_succ hn)) hI hP hD hS (lv_sub hl [2, 3, 1, 0] rfl)
  have hv := v0 σ0 τ0 a1 hpre
  unfold s_Mo_many_0 at hv
  refine lv_iconst (v := 0) hx hb d_Mo_many_0 (by decide) ?_
  refine lv_istore_n (lv' := [(2, .int 0), (0, .ref (ad 29)), (1, .int a1)]) hx hb d_Mo_many_1 rfl hl (by decide) rfl (fun ls hl => ?_)
  refine lv_iconst (v := 0) hx hb d_Mo_many_2 (by decide) ?_
  refine lv_istore_n (lv' := [(3, .int 0), (2, .int 0), (0, .ref (ad 29)), (1, .int a1)]) hx hb d_Mo_many_3 rfl hl (by decide) rfl (fun ls hl => ?_)
  exact (hL _) a1 0 0 σ0 τ0 _ _ _ (Nat.lt_succ_self _) hv hP hD hS (lv_sub hl [2, 3, 1, 0] rfl)
theorem d_Mo_isAhead_0 : decode b_Mo_isAhead 0 = .ok (.iload_n 0, 1) := by decide +kernel
theorem d_Mo_isAhead_1 : decode b_Mo_isAhead 1 = .ok (.iload_n 1, 1) := by decide +kernel
theorem d_Mo_isAhead_2 : decode b_Mo_isAhead 2 = .ok (.ixor, 1) := by decide +kernel
theorem d_Mo_isAhead_3 : decode b_Mo_isAhead 3 = .ok (.istore_n 2, 1) := by decide +kernel
theorem d_Mo_isAhead_4 : decode b_Mo_isAhead 4 = .ok (.iload_n 2, 1) := by decide +kernel
theorem d_Mo_isAhead_5 : decode b_Mo_isAhead 5 = .ok (.ifCond .eq 16, 3) := by decide +kernel
theorem d_Mo_isAhead_8 : decode b_Mo_isAhead 8 = .ok (.iload_n 0, 1) := by decide +kernel
theorem d_Mo_isAhead_9 : decode b_Mo_isAhead 9 = .ok (.iload_n 2, 1) := by decide +kernel
theorem d_Mo_isAhead_10 : decode b_Mo_isAhead 10 = .ok (.iload_n 2, 1) := by decide +kernel
theorem d_Mo_isAhead_11 : decode b_Mo_isAhead 11 = .ok (.ineg, 1) := by decide +kernel
theorem d_Mo_isAhead_12 : decode b_Mo_isAhead 12 = .ok (.iand, 1) := by decide +kernel
theorem d_Mo_isAhead_13 : decode b_Mo_isAhead 13 = .ok (.iand, 1) := by decide +kernel
theorem d_Mo_isAhead_14 : decode b_Mo_isAhead 14 = .ok (.ifCond .eq 7, 3) := by decide +kernel
theorem d_Mo_isAhead_17 : decode b_Mo_isAhead 17 = .ok (.iconst 1, 1) := by decide +kernel
theorem d_Mo_isAhead_18 : decode b_Mo_isAhead 18 = .ok (.goto 4, 3) := by decide +kernel
theorem d_Mo_isAhead_21 : decode b_Mo_isAhead 21 = .ok (.iconst 0, 1) := by decide +kernel
theorem d_Mo_isAhead_22 : decode b_Mo_isAhead 22 = .ok (.ireturn, 1) := by decide +kernel
def s_Mo_isAhead_0 (σ : MI) (τ : ML) (a0 : Int32) (a1 : Int32) (R : Int32 → MI → ML → Prop) : Prop :=
  ∀ y3 : Int32, y3 = a0 ^^^ a1 → ((y3 = 0 →
  ((0 = (0 : Int32) ∨ 0 = (1 : Int32)) ∧ R 0 σ τ)) ∧
  (¬ y3 = 0 →
  (((a0 &&& (y3 &&& (-y3))) = 0 →
    ((0 = (0 : Int32) ∨ 0 = (1 : Int32)) ∧ R 0 σ τ)) ∧
    (¬ (a0 &&& (y3 &&& (-y3))) = 0 →
    ((1 = (0 : Int32) ∨ 1 = (1 : Int32)) ∧ R 1 σ τ)))))
set_option maxHeartbeats 4000000 in
set_option maxRecDepth 100000 in
theorem k_Mo_isAhead (l : Launch) (D : va_G) (ad : Nat → Nat) (ci cl : ClassId)
    (pre : MI → ML → Int32 → Int32 → Prop) (post : MI → ML → Int32 → Int32 → Int32 → MI → ML → Prop)
    (v0 : ∀ (σ0 : MI) (τ0 : ML) (a0 : Int32) (a1 : Int32), pre σ0 τ0 a0 a1 → s_Mo_isAhead_0 σ0 τ0 a0 a1 (post σ0 τ0 a0 a1)) :
    ∀ (sz : Nat) (σ0 : MI) (τ0 : ML) (a0 : Int32) (a1 : Int32), pre σ0 τ0 a0 a1 → gMi l D (xw ad ci cl) (xt ci cl) (xa ad) y_Mo_isAhead w_Mo_isAhead rm_Mo_isAhead [.int a0, .int a1] sz σ0 τ0 (post σ0 τ0 a0 a1) := by
  intro sz σ0 τ0 a0 a1 hpre
  refine gk_ofWi (cc := b_Mo_isAhead) (maxL := 3) (ret := (some .boolean)) (by decide) rfl xa_ok (Nat.le_of_ble_eq_true rfl) ?_
  intro p e s m below meth c ls hx hb hr hlocks hml hown hts hK hP hD hS hl
  have hl : lv_has ls 3 [(0, .int a0), (1, .int a1)] := hl
  have hown : s.vm.findClass R_Mo = some m.cls := hown
  have hv := v0 σ0 τ0 a0 a1 hpre
  unfold s_Mo_isAhead_0 at hv
  refine lv_iload_n hx hb d_Mo_isAhead_0 rfl (lv_at hl 0 rfl) ?_
  refine lv_iload_n hx hb d_Mo_isAhead_1 rfl (lv_at hl 1 rfl) ?_
  refine lv_ixor hx hb d_Mo_isAhead_2 ?_
  refine lv_topi (fun y3 ey3 => ?_)
  replace hv := hv y3 ey3
  refine lv_istore_n (lv' := [(2, .int y3), (0, .int a0), (1, .int a1)]) hx hb d_Mo_isAhead_3 rfl hl (by decide) rfl (fun ls hl => ?_)
  refine lv_iload_n hx hb d_Mo_isAhead_4 rfl (lv_at hl 0 rfl) ?_
  refine lv_if_eq (tgt := 21) hx hb d_Mo_isAhead_5 (by decide) (fun hc => ?_) (fun hc => ?_)
  · replace hv := hv.1 hc
    refine lv_iconst (v := 0) hx hb d_Mo_isAhead_21 (by decide) ?_
    obtain ⟨hz, hv⟩ := hv
    exact gk_zret hx hb hr hlocks (gk_nz hz) hK hP hD hS hv d_Mo_isAhead_22
  · replace hv := hv.2 hc
    refine lv_iload_n hx hb d_Mo_isAhead_8 rfl (lv_at hl 1 rfl) ?_
    refine lv_iload_n hx hb d_Mo_isAhead_9 rfl (lv_at hl 0 rfl) ?_
    refine lv_iload_n hx hb d_Mo_isAhead_10 rfl (lv_at hl 0 rfl) ?_
    refine lv_ineg hx hb d_Mo_isAhead_11 ?_
    refine lv_iand hx hb d_Mo_isAhead_12 ?_
    refine lv_iand hx hb d_Mo_isAhead_13 ?_
    refine lv_if_eq (tgt := 21) hx hb d_Mo_isAhead_14 (by decide) (fun hc => ?_) (fun hc => ?_)
    · replace hv := hv.1 hc
      refine lv_iconst (v := 0) hx hb d_Mo_isAhead_21 (by decide) ?_
      obtain ⟨hz, hv⟩ := hv
      exact gk_zret hx hb hr hlocks (gk_nz hz) hK hP hD hS hv d_Mo_isAhead_22
    · replace hv := hv.2 hc
      refine lv_iconst (v := 1) hx hb d_Mo_isAhead_17 (by decide) ?_
      refine lv_goto (tgt := 22) hx hb d_Mo_isAhead_18 (by decide) ?_
      obtain ⟨hz, hv⟩ := hv
      exact gk_zret hx hb hr hlocks (gk_nz hz) hK hP hD hS hv d_Mo_isAhead_22
theorem d_Mo_best_0 : decode b_Mo_best 0 = .ok (.aload_n 0, 1) := by decide +kernel
theorem d_Mo_best_1 : decode b_Mo_best 1 = .ok (.iload_n 1, 1) := by decide +kernel
theorem d_Mo_best_2 : decode b_Mo_best 2 = .ok (.invokevirtual 134, 3) := by decide +kernel
theorem d_Mo_best_5 : decode b_Mo_best 5 = .ok (.istore_n 2, 1) := by decide +kernel
theorem d_Mo_best_6 : decode b_Mo_best 6 = .ok (.iconst 0, 1) := by decide +kernel
theorem d_Mo_best_7 : decode b_Mo_best 7 = .ok (.istore_n 3, 1) := by decide +kernel
theorem d_Mo_best_8 : decode b_Mo_best 8 = .ok (.iconst 1, 1) := by decide +kernel
theorem d_Mo_best_9 : decode b_Mo_best 9 = .ok (.istore 4, 2) := by decide +kernel
theorem d_Mo_best_11 : decode b_Mo_best 11 = .ok (.iload 4, 2) := by decide +kernel
theorem d_Mo_best_13 : decode b_Mo_best 13 = .ok (.iconst 1, 1) := by decide +kernel
theorem d_Mo_best_14 : decode b_Mo_best 14 = .ok (.aload_n 0, 1) := by decide +kernel
theorem d_Mo_best_15 : decode b_Mo_best 15 = .ok (.getfield 91, 3) := by decide +kernel
theorem d_Mo_best_18 : decode b_Mo_best 18 = .ok (.ishl, 1) := by decide +kernel
theorem d_Mo_best_19 : decode b_Mo_best 19 = .ok (.if_icmp .ge 102, 3) := by decide +kernel
theorem d_Mo_best_22 : decode b_Mo_best 22 = .ok (.iload 4, 2) := by decide +kernel
theorem d_Mo_best_24 : decode b_Mo_best 24 = .ok (.iload_n 2, 1) := by decide +kernel
theorem d_Mo_best_25 : decode b_Mo_best 25 = .ok (.iand, 1) := by decide +kernel
theorem d_Mo_best_26 : decode b_Mo_best 26 = .ok (.ifCond .ne 89, 3) := by decide +kernel
theorem d_Mo_best_29 : decode b_Mo_best 29 = .ok (.aload_n 0, 1) := by decide +kernel
theorem d_Mo_best_30 : decode b_Mo_best 30 = .ok (.iload 4, 2) := by decide +kernel
theorem d_Mo_best_32 : decode b_Mo_best 32 = .ok (.invokevirtual 137, 3) := by decide +kernel
theorem d_Mo_best_35 : decode b_Mo_best 35 = .ok (.aload_n 0, 1) := by decide +kernel
theorem d_Mo_best_36 : decode b_Mo_best 36 = .ok (.getfield 34, 3) := by decide +kernel
theorem d_Mo_best_39 : decode b_Mo_best 39 = .ok (.iload_n 1, 1) := by decide +kernel
theorem d_Mo_best_40 : decode b_Mo_best 40 = .ok (.iaload, 1) := by decide +kernel
theorem d_Mo_best_41 : decode b_Mo_best 41 = .ok (.if_icmp .ge 6, 3) := by decide +kernel
theorem d_Mo_best_44 : decode b_Mo_best 44 = .ok (.goto 71, 3) := by decide +kernel
theorem d_Mo_best_47 : decode b_Mo_best 47 = .ok (.aload_n 0, 1) := by decide +kernel
theorem d_Mo_best_48 : decode b_Mo_best 48 = .ok (.iload 4, 2) := by decide +kernel
theorem d_Mo_best_50 : decode b_Mo_best 50 = .ok (.invokevirtual 140, 3) := by decide +kernel
theorem d_Mo_best_53 : decode b_Mo_best 53 = .ok (.aload_n 0, 1) := by decide +kernel
theorem d_Mo_best_54 : decode b_Mo_best 54 = .ok (.iload_n 3, 1) := by decide +kernel
theorem d_Mo_best_55 : decode b_Mo_best 55 = .ok (.invokevirtual 140, 3) := by decide +kernel
theorem d_Mo_best_58 : decode b_Mo_best 58 = .ok (.isub, 1) := by decide +kernel
theorem d_Mo_best_59 : decode b_Mo_best 59 = .ok (.istore 5, 2) := by decide +kernel
theorem d_Mo_best_61 : decode b_Mo_best 61 = .ok (.aload_n 0, 1) := by decide +kernel
theorem d_Mo_best_62 : decode b_Mo_best 62 = .ok (.iload 4, 2) := by decide +kernel
theorem d_Mo_best_64 : decode b_Mo_best 64 = .ok (.invokevirtual 137, 3) := by decide +kernel
theorem d_Mo_best_67 : decode b_Mo_best 67 = .ok (.aload_n 0, 1) := by decide +kernel
theorem d_Mo_best_68 : decode b_Mo_best 68 = .ok (.iload_n 3, 1) := by decide +kernel
theorem d_Mo_best_69 : decode b_Mo_best 69 = .ok (.invokevirtual 137, 3) := by decide +kernel
theorem d_Mo_best_72 : decode b_Mo_best 72 = .ok (.isub, 1) := by decide +kernel
theorem d_Mo_best_73 : decode b_Mo_best 73 = .ok (.istore 6, 2) := by decide +kernel
theorem d_Mo_best_75 : decode b_Mo_best 75 = .ok (.iload_n 3, 1) := by decide +kernel
theorem d_Mo_best_76 : decode b_Mo_best 76 = .ok (.ifCond .eq 32, 3) := by decide +kernel
theorem d_Mo_best_79 : decode b_Mo_best 79 = .ok (.iload 5, 2) := by decide +kernel
theorem d_Mo_best_81 : decode b_Mo_best 81 = .ok (.ifCond .lt 27, 3) := by decide +kernel
theorem d_Mo_best_84 : decode b_Mo_best 84 = .ok (.iload 5, 2) := by decide +kernel
theorem d_Mo_best_86 : decode b_Mo_best 86 = .ok (.ifCond .ne 27, 3) := by decide +kernel
theorem d_Mo_best_89 : decode b_Mo_best 89 = .ok (.iload 6, 2) := by decide +kernel
theorem d_Mo_best_91 : decode b_Mo_best 91 = .ok (.ifCond .lt 17, 3) := by decide +kernel
theorem d_Mo_best_94 : decode b_Mo_best 94 = .ok (.iload 6, 2) := by decide +kernel
theorem d_Mo_best_96 : decode b_Mo_best 96 = .ok (.ifCond .ne 17, 3) := by decide +kernel
theorem d_Mo_best_99 : decode b_Mo_best 99 = .ok (.iload 4, 2) := by decide +kernel
theorem d_Mo_best_101 : decode b_Mo_best 101 = .ok (.iload_n 3, 1) := by decide +kernel
theorem d_Mo_best_102 : decode b_Mo_best 102 = .ok (.invokestatic 143, 3) := by decide +kernel
theorem d_Mo_best_105 : decode b_Mo_best 105 = .ok (.ifCond .eq 8, 3) := by decide +kernel
theorem d_Mo_best_108 : decode b_Mo_best 108 = .ok (.iload 4, 2) := by decide +kernel
theorem d_Mo_best_110 : decode b_Mo_best 110 = .ok (.goto 4, 3) := by decide +kernel
theorem d_Mo_best_113 : decode b_Mo_best 113 = .ok (.iload_n 3, 1) := by decide +kernel
theorem d_Mo_best_114 : decode b_Mo_best 114 = .ok (.istore_n 3, 1) := by decide +kernel
theorem d_Mo_best_115 : decode b_Mo_best 115 = .ok (.iinc 4 1, 3) := by decide +kernel
theorem d_Mo_best_118 : decode b_Mo_best 118 = .ok (.goto (-107), 3) := by decide +kernel
theorem d_Mo_best_121 : decode b_Mo_best 121 = .ok (.iload_n 3, 1) := by decide +kernel
theorem d_Mo_best_122 : decode b_Mo_best 122 = .ok (.ireturn, 1) := by decide +kernel
def s_Mo_best_0 (P_Mo_busy : MI → ML → Int32 → Prop) (Q_Mo_busy : MI → ML → Int32 → Int32 → MI → ML → Prop) (P_Mo_together : MI → ML → Int32 → Prop) (Q_Mo_together : MI → ML → Int32 → Int32 → MI → ML → Prop) (P_Mo_many : MI → ML → Int32 → Prop) (Q_Mo_many : MI → ML → Int32 → Int32 → MI → ML → Prop) (P_Mo_isAhead : MI → ML → Int32 → Int32 → Prop) (Q_Mo_isAhead : MI → ML → Int32 → Int32 → Int32 → MI → ML → Prop) (σ : MI) (τ : ML) (a1 : Int32) (K11 : Int32 → Int32 → Int32 → Int32 → MI → ML → Prop) (R : Int32 → MI → ML → Prop) : Prop :=
  P_Mo_busy σ τ a1 ∧ ∀ (r2 : Int32) (s2 : MI) (t2 : ML), Q_Mo_busy σ τ a1 r2 s2 t2 → (K11 a1 r2 0 1 s2 t2)
def s_Mo_best_11 (P_Mo_busy : MI → ML → Int32 → Prop) (Q_Mo_busy : MI → ML → Int32 → Int32 → MI → ML → Prop) (P_Mo_together : MI → ML → Int32 → Prop) (Q_Mo_together : MI → ML → Int32 → Int32 → MI → ML → Prop) (P_Mo_many : MI → ML → Int32 → Prop) (Q_Mo_many : MI → ML → Int32 → Int32 → MI → ML → Prop) (P_Mo_isAhead : MI → ML → Int32 → Int32 → Prop) (Q_Mo_isAhead : MI → ML → Int32 → Int32 → Int32 → MI → ML → Prop) (σ : MI) (τ : ML) (x1 : Int32) (x2 : Int32) (x3 : Int32) (x4 : Int32) (K11 : Int32 → Int32 → Int32 → Int32 → MI → ML → Prop) (R : Int32 → MI → ML → Prop) : Prop :=
  ((1 <<< ((σ 29 8) &&& 31)) ≤ x4 →
  (R x3 σ τ)) ∧
  (¬ (1 <<< ((σ 29 8) &&& 31)) ≤ x4 →
  ((¬ (x4 &&& x2) = 0 →
    (∀ y115 : Int32, y115 = x4 + 1 → (K11 x1 x2 x3 y115 σ τ))) ∧
    ((x4 &&& x2) = 0 →
    (P_Mo_together σ τ x4 ∧ ∀ (r32 : Int32) (s32 : MI) (t32 : ML), Q_Mo_together σ τ x4 r32 s32 t32 → (vp_in x1 7 ∧ (((s32 38 (Int32.toNatClampNeg x1)) ≤ r32 →
      (P_Mo_many s32 t32 x4 ∧ ∀ (r50 : Int32) (s50 : MI) (t50 : ML), Q_Mo_many s32 t32 x4 r50 s50 t50 → (P_Mo_many s50 t50 x3 ∧ ∀ (r55 : Int32) (s55 : MI) (t55 : ML), Q_Mo_many s50 t50 x3 r55 s55 t55 → (∀ y59 : Int32, y59 = r50 - r55 → (P_Mo_together s55 t55 x4 ∧ ∀ (r64 : Int32) (s64 : MI) (t64 : ML), Q_Mo_together s55 t55 x4 r64 s64 t64 → (P_Mo_together s64 t64 x3 ∧ ∀ (r69 : Int32) (s69 : MI) (t69 : ML), Q_Mo_together s64 t64 x3 r69 s69 t69 → (∀ y73 : Int32, y73 = r64 - r69 → ((x3 = 0 →
        (∀ y115 : Int32, y115 = x4 + 1 → (K11 x1 x2 x4 y115 s69 t69))) ∧
        (¬ x3 = 0 →
        ((y59 < 0 →
          (∀ y115 : Int32, y115 = x4 + 1 → (K11 x1 x2 x4 y115 s69 t69))) ∧
          (¬ y59 < 0 →
          ((¬ y59 = 0 →
            (∀ y115 : Int32, y115 = x4 + 1 → (K11 x1 x2 x3 y115 s69 t69))) ∧
            (y59 = 0 →
            ((y73 < 0 →
              (∀ y115 : Int32, y115 = x4 + 1 → (K11 x1 x2 x4 y115 s69 t69))) ∧
              (¬ y73 < 0 →
              ((¬ y73 = 0 →
                (∀ y115 : Int32, y115 = x4 + 1 → (K11 x1 x2 x3 y115 s69 t69))) ∧
                (y73 = 0 →
                (P_Mo_isAhead s69 t69 x4 x3 ∧ ∀ (r102 : Int32) (s102 : MI) (t102 : ML), Q_Mo_isAhead s69 t69 x4 x3 r102 s102 t102 → ((r102 = 0 →
                  (∀ y115 : Int32, y115 = x4 + 1 → (K11 x1 x2 x3 y115 s102 t102))) ∧
                  (¬ r102 = 0 →
                  (∀ y115 : Int32, y115 = x4 + 1 → (K11 x1 x2 x4 y115 s102 t102)))))))))))))))))))))) ∧
      (¬ (s32 38 (Int32.toNatClampNeg x1)) ≤ r32 →
      (∀ y115 : Int32, y115 = x4 + 1 → (K11 x1 x2 x3 y115 s32 t32)))))))))
set_option maxHeartbeats 4000000 in
set_option maxRecDepth 100000 in
theorem k_Mo_best (l : Launch) (D : va_G) (ad : Nat → Nat) (ci cl : ClassId)
    (pre : MI → ML → Int32 → Prop) (post : MI → ML → Int32 → Int32 → MI → ML → Prop) (P_Mo_busy : MI → ML → Int32 → Prop) (Q_Mo_busy : MI → ML → Int32 → Int32 → MI → ML → Prop) (P_Mo_together : MI → ML → Int32 → Prop) (Q_Mo_together : MI → ML → Int32 → Int32 → MI → ML → Prop) (P_Mo_many : MI → ML → Int32 → Prop) (Q_Mo_many : MI → ML → Int32 → Int32 → MI → ML → Prop) (P_Mo_isAhead : MI → ML → Int32 → Int32 → Prop) (Q_Mo_isAhead : MI → ML → Int32 → Int32 → Int32 → MI → ML → Prop)
    (h_Mo_busy : ∀ (sz : Nat) (σ : MI) (τ : ML) (b0 : Int32), P_Mo_busy σ τ b0 → gMi l D (xw ad ci cl) (xt ci cl) (xa ad) y_Mo_busy w_Mo_busy rm_Mo_busy [.ref (ad 29), .int b0] sz σ τ (Q_Mo_busy σ τ b0))
    (h_Mo_together : ∀ (sz : Nat) (σ : MI) (τ : ML) (b0 : Int32), P_Mo_together σ τ b0 → gMi l D (xw ad ci cl) (xt ci cl) (xa ad) y_Mo_together w_Mo_together rm_Mo_together [.ref (ad 29), .int b0] sz σ τ (Q_Mo_together σ τ b0))
    (h_Mo_many : ∀ (sz : Nat) (σ : MI) (τ : ML) (b0 : Int32), P_Mo_many σ τ b0 → gMi l D (xw ad ci cl) (xt ci cl) (xa ad) y_Mo_many w_Mo_many rm_Mo_many [.ref (ad 29), .int b0] sz σ τ (Q_Mo_many σ τ b0))
    (h_Mo_isAhead : ∀ (sz : Nat) (σ : MI) (τ : ML) (b0 : Int32) (b1 : Int32), P_Mo_isAhead σ τ b0 b1 → gMi l D (xw ad ci cl) (xt ci cl) (xa ad) y_Mo_isAhead w_Mo_isAhead rm_Mo_isAhead [.int b0, .int b1] sz σ τ (Q_Mo_isAhead σ τ b0 b1))
    (I11 : MI → ML → Int32 → Int32 → Int32 → Int32 → Int32 → MI → ML → Prop) (m11 : MI → ML → Int32 → Int32 → Int32 → Int32 → Int32 → MI → ML → Nat)
    (v0 : ∀ (σ0 : MI) (τ0 : ML) (a1 : Int32), pre σ0 τ0 a1 → s_Mo_best_0 P_Mo_busy Q_Mo_busy P_Mo_together Q_Mo_together P_Mo_many Q_Mo_many P_Mo_isAhead Q_Mo_isAhead σ0 τ0 a1 (fun z0 z1 z2 z3 σ9 τ9 => I11 σ0 τ0 a1 z0 z1 z2 z3 σ9 τ9) (post σ0 τ0 a1))
    (v11 : ∀ (σ0 : MI) (τ0 : ML) (a1 : Int32) (x1 : Int32) (x2 : Int32) (x3 : Int32) (x4 : Int32) (σ : MI) (τ : ML), I11 σ0 τ0 a1 x1 x2 x3 x4 σ τ → s_Mo_best_11 P_Mo_busy Q_Mo_busy P_Mo_together Q_Mo_together P_Mo_many Q_Mo_many P_Mo_isAhead Q_Mo_isAhead σ τ x1 x2 x3 x4 (fun z0 z1 z2 z3 σ9 τ9 => I11 σ0 τ0 a1 z0 z1 z2 z3 σ9 τ9 ∧ m11 σ0 τ0 a1 z0 z1 z2 z3 σ9 τ9 < m11 σ0 τ0 a1 x1 x2 x3 x4 σ τ) (post σ0 τ0 a1)) :
    ∀ (sz : Nat) (σ0 : MI) (τ0 : ML) (a1 : Int32), pre σ0 τ0 a1 → gMi l D (xw ad ci cl) (xt ci cl) (xa ad) y_Mo_best w_Mo_best rm_Mo_best [.ref (ad 29), .int a1] sz σ0 τ0 (post σ0 τ0 a1) := by
  intro sz σ0 τ0 a1 hpre
  refine gk_ofWi (cc := b_Mo_best) (maxL := 7) (ret := (some .int)) (by decide) rfl xa_ok (Nat.le_of_ble_eq_true rfl) ?_
  intro p e s m below meth c ls hx hb hr hlocks hml hown hts hK hP hD hS hl
  have hl : lv_has ls 7 [(0, .ref (ad 29)), (1, .int a1)] := hl
  have hown : s.vm.findClass R_Mo = some m.cls := hown
  have hL : ∀ n : Nat, (∀ (x1 : Int32) (x2 : Int32) (x3 : Int32) (x4 : Int32) (σ : MI) (τ : ML) (H : Heap) (locs : List Loc) (ls : Array Slot), m11 σ0 τ0 a1 x1 x2 x3 x4 σ τ < n → I11 σ0 τ0 a1 x1 x2 x3 x4 σ τ → va_P D classes ((xw ad ci cl) σ τ) H → va_D (gA (xa ad) s.heap.size) ((xw ad ci cl) σ τ) → va_S (gA (xa ad) s.heap.size) s.heap H locs → lv_has ls 7 [(0, .ref (ad 29)), (1, .int x1), (2, .int x2), (3, .int x3), (4, .int x4)] → W p l e rm_Mo_best s m [.ref (ad 29), .int a1].toArray below meth c H locs 0 0 (gQi D (xw ad ci cl) (xt ci cl) (xa ad) below [.ref (ad 29), .int a1] s (post σ0 τ0 a1)) (F0 m 11 ls [])) := by
    intro n
    induction n with
    | zero => exact fun _ _ _ _ _ _ _ _ _ hn => absurd hn (Nat.not_lt_zero _)
    | succ n ih =>
      · intro x1 x2 x3 x4 σ τ H locs ls hn hI hP hD hS hl
        have hv := v11 σ0 τ0 a1 x1 x2 x3 x4 σ τ hI
        unfold s_Mo_best_11 at hv
        refine lv_iload hx hb d_Mo_best_11 (lv_at hl 4 rfl) ?_
        refine lv_iconst (v := 1) hx hb d_Mo_best_13 (by decide) ?_
        refine lv_aload_n hx hb d_Mo_best_14 rfl (lv_at hl 0 rfl) ?_
        refine va_get (D := D) (ci := 7) (v := .int (σ 29 8)) (C := R_Mo) (T := F_Mo) (N := 24) hx hb hts iw_Mo hown hK hP 29 rfl rfl 8 (by decide) (hts _ t_w269) (fun _ h9 => h9) rfl d_Mo_best_15 ?_
        refine lv_ishl hx hb d_Mo_best_18 ?_
        refine lv_icmp_ge (tgt := 121) hx hb d_Mo_best_19 (by decide) (fun hc => ?_) (fun hc => ?_)
        · replace hv := hv.1 hc
          refine lv_iload_n hx hb d_Mo_best_121 rfl (lv_at hl 3 rfl) ?_
          exact gk_iret hx hb hr hlocks hK hP hD hS hv d_Mo_best_122
        · replace hv := hv.2 hc
          refine lv_iload hx hb d_Mo_best_22 (lv_at hl 4 rfl) ?_
          refine lv_iload_n hx hb d_Mo_best_24 rfl (lv_at hl 2 rfl) ?_
          refine lv_iand hx hb d_Mo_best_25 ?_
          refine lv_if_ne (tgt := 115) hx hb d_Mo_best_26 (by decide) (fun hc => ?_) (fun hc => ?_)
          · replace hv := hv.1 hc
            obtain ⟨y115, ey115⟩ : ∃ z : Int32, z = x4 + 1 := ⟨_, rfl⟩
            replace hv := hv y115 ey115
            refine lv_iinc (v := y115) (lv' := [(4, .int y115), (0, .ref (ad 29)), (1, .int x1), (2, .int x2), (3, .int x3)]) hx hb d_Mo_best_115 hl (k := 4) rfl (by rw [ey115]; rfl) (by decide) rfl (fun ls hl => ?_)
            refine lv_goto (tgt := 11) hx hb d_Mo_best_118 (by decide) ?_
            obtain ⟨hI, hm⟩ := hv
            exact ih x1 x2 x3 y115 σ τ _ _ _ (Nat.lt_of_lt_of_le hm (Nat.le_of_lt_succ hn)) hI hP hD hS (lv_sub hl [1, 2, 3, 4, 0] rfl)
          · replace hv := hv.2 hc
            refine lv_aload_n hx hb d_Mo_best_29 rfl (lv_at hl 0 rfl) ?_
            refine lv_iload hx hb d_Mo_best_30 (lv_at hl 4 rfl) ?_
            obtain ⟨hg, hv⟩ := hv
            refine gk_callVi (As := [.int x4]) (rest := []) (b := ad 29) ⟨hx, hb, hml, hown, hts⟩ (h_Mo_together _ σ τ x4 hg) (gk_cwV 1 hts t_w304 rfl rfl rfl (hts _ t_w301) (hts _ t_w302) (hts _ t_w303) (hts _ t_w252) (by decide +kernel) ⟨Nat.le_of_ble_eq_true rfl, Nat.le_of_ble_eq_true rfl⟩) hK hP hD hS (va_recv hK hP (ci := 7) (q0 := 29) rfl rfl) rfl hl.1 rfl (lv_room (Nat.le_of_ble_eq_true rfl)) d_Mo_best_32 ⟨Nat.zero_le _, Nat.zero_le _⟩ ?_
            intro r32 s32 t32 H locs hw hP hD hS
            replace hv := hv r32 s32 t32 hw
            refine lv_aload_n hx hb d_Mo_best_35 rfl (lv_at hl 0 rfl) ?_
            refine va_get (D := D) (ci := 7) (v := .ref (ad 38)) (C := R_Mo) (T := F_Mo) (N := 24) hx hb hts iw_Mo hown hK hP 29 rfl rfl 12 (by decide) (hts _ t_w272) (fun _ h9 => h9) rfl d_Mo_best_36 ?_
            refine lv_iload_n hx hb d_Mo_best_39 rfl (lv_at hl 1 rfl) ?_
            obtain ⟨hi, hv⟩ := hv
            refine va_iald hx hb hK hP 38 0 rfl rfl hi d_Mo_best_40 ?_
            refine lv_icmp_ge (tgt := 47) hx hb d_Mo_best_41 (by decide) (fun hc => ?_) (fun hc => ?_)
            · replace hv := hv.1 hc
              refine lv_aload_n hx hb d_Mo_best_47 rfl (lv_at hl 0 rfl) ?_
              refine lv_iload hx hb d_Mo_best_48 (lv_at hl 4 rfl) ?_
              obtain ⟨hg, hv⟩ := hv
              refine gk_callVi (As := [.int x4]) (rest := []) (b := ad 29) ⟨hx, hb, hml, hown, hts⟩ (h_Mo_many _ s32 t32 x4 hg) (gk_cwV 1 hts t_w308 rfl rfl rfl (hts _ t_w305) (hts _ t_w306) (hts _ t_w307) (hts _ t_w252) (by decide +kernel) ⟨Nat.le_of_ble_eq_true rfl, Nat.le_of_ble_eq_true rfl⟩) hK hP hD hS (va_recv hK hP (ci := 7) (q0 := 29) rfl rfl) rfl hl.1 rfl (lv_room (Nat.le_of_ble_eq_true rfl)) d_Mo_best_50 ⟨Nat.zero_le _, Nat.zero_le _⟩ ?_
              intro r50 s50 t50 H locs hw hP hD hS
              replace hv := hv r50 s50 t50 hw
              refine lv_aload_n hx hb d_Mo_best_53 rfl (lv_at hl 0 rfl) ?_
              refine lv_iload_n hx hb d_Mo_best_54 rfl (lv_at hl 3 rfl) ?_
              obtain ⟨hg, hv⟩ := hv
              refine gk_callVi (As := [.int x3]) (rest := [.int r50]) (b := ad 29) ⟨hx, hb, hml, hown, hts⟩ (h_Mo_many _ s50 t50 x3 hg) (gk_cwV 1 hts t_w308 rfl rfl rfl (hts _ t_w305) (hts _ t_w306) (hts _ t_w307) (hts _ t_w252) (by decide +kernel) ⟨Nat.le_of_ble_eq_true rfl, Nat.le_of_ble_eq_true rfl⟩) hK hP hD hS (va_recv hK hP (ci := 7) (q0 := 29) rfl rfl) rfl hl.1 rfl (lv_room (Nat.le_of_ble_eq_true rfl)) d_Mo_best_55 ⟨Nat.zero_le _, Nat.zero_le _⟩ ?_
              intro r55 s55 t55 H locs hw hP hD hS
              replace hv := hv r55 s55 t55 hw
              refine lv_isub hx hb d_Mo_best_58 ?_
              refine lv_topi (fun y59 ey59 => ?_)
              replace hv := hv y59 ey59
              refine lv_istore (lv' := [(5, .int y59), (0, .ref (ad 29)), (1, .int x1), (2, .int x2), (3, .int x3), (4, .int x4)]) hx hb d_Mo_best_59 hl (by decide) rfl (fun ls hl => ?_)
              refine lv_aload_n hx hb d_Mo_best_61 rfl (lv_at hl 1 rfl) ?_
              refine lv_iload hx hb d_Mo_best_62 (lv_at hl 5 rfl) ?_
              obtain ⟨hg, hv⟩ := hv
              refine gk_callVi (As := [.int x4]) (rest := []) (b := ad 29) ⟨hx, hb, hml, hown, hts⟩ (h_Mo_together _ s55 t55 x4 hg) (gk_cwV 1 hts t_w304 rfl rfl rfl (hts _ t_w301) (hts _ t_w302) (hts _ t_w303) (hts _ t_w252) (by decide +kernel) ⟨Nat.le_of_ble_eq_true rfl, Nat.le_of_ble_eq_true rfl⟩) hK hP hD hS (va_recv hK hP (ci := 7) (q0 := 29) rfl rfl) rfl hl.1 rfl (lv_room (Nat.le_of_ble_eq_true rfl)) d_Mo_best_64 ⟨Nat.zero_le _, Nat.zero_le _⟩ ?_
              intro r64 s64 t64 H locs hw hP hD hS
              replace hv := hv r64 s64 t64 hw
              refine lv_aload_n hx hb d_Mo_best_67 rfl (lv_at hl 1 rfl) ?_
              refine lv_iload_n hx hb d_Mo_best_68 rfl (lv_at hl 4 rfl) ?_
              obtain ⟨hg, hv⟩ := hv
              refine gk_callVi (As := [.int x3]) (rest := [.int r64]) (b := ad 29) ⟨hx, hb, hml, hown, hts⟩ (h_Mo_together _ s64 t64 x3 hg) (gk_cwV 1 hts t_w304 rfl rfl rfl (hts _ t_w301) (hts _ t_w302) (hts _ t_w303) (hts _ t_w252) (by decide +kernel) ⟨Nat.le_of_ble_eq_true rfl, Nat.le_of_ble_eq_true rfl⟩) hK hP hD hS (va_recv hK hP (ci := 7) (q0 := 29) rfl rfl) rfl hl.1 rfl (lv_room (Nat.le_of_ble_eq_true rfl)) d_Mo_best_69 ⟨Nat.zero_le _, Nat.zero_le _⟩ ?_
              intro r69 s69 t69 H locs hw hP hD hS
              replace hv := hv r69 s69 t69 hw
              refine lv_isub hx hb d_Mo_best_72 ?_
              refine lv_topi (fun y73 ey73 => ?_)
              replace hv := hv y73 ey73
              refine lv_istore (lv' := [(6, .int y73), (5, .int y59), (0, .ref (ad 29)), (1, .int x1), (2, .int x2), (3, .int x3), (4, .int x4)]) hx hb d_Mo_best_73 hl (by decide) rfl (fun ls hl => ?_)
              refine lv_iload_n hx hb d_Mo_best_75 rfl (lv_at hl 5 rfl) ?_
              refine lv_if_eq (tgt := 108) hx hb d_Mo_best_76 (by decide) (fun hc => ?_) (fun hc => ?_)
              · replace hv := hv.1 hc
                refine lv_iload hx hb d_Mo_best_108 (lv_at hl 6 rfl) ?_
                refine lv_goto (tgt := 114) hx hb d_Mo_best_110 (by decide) ?_
                refine lv_istore_n (lv' := [(3, .int x4), (6, .int y73), (5, .int y59), (0, .ref (ad 29)), (1, .int x1), (2, .int x2), (4, .int x4)]) hx hb d_Mo_best_114 rfl hl (by decide) rfl (fun ls hl => ?_)
                obtain ⟨y115, ey115⟩ : ∃ z : Int32, z = x4 + 1 := ⟨_, rfl⟩
                replace hv := hv y115 ey115
                refine lv_iinc (v := y115) (lv' := [(4, .int y115), (3, .int x4), (6, .int y73), (5, .int y59), (0, .ref (ad 29)), (1, .int x1), (2, .int x2)]) hx hb d_Mo_best_115 hl (k := 6) rfl (by rw [ey115]; rfl) (by decide) rfl (fun ls hl => ?_)
                refine lv_goto (tgt := 11) hx hb d_Mo_best_118 (by decide) ?_
                obtain ⟨hI, hm⟩ := hv
                exact ih x1 x2 x4 y115 s69 t69 _ _ _ (Nat.lt_of_lt_of_le hm (Nat.le_of_lt_succ hn)) hI hP hD hS (lv_sub hl [4, 5, 6, 1, 0] rfl)
              · replace hv := hv.2 hc
                refine lv_iload hx hb d_Mo_best_79 (lv_at hl 1 rfl) ?_
                refine lv_if_lt (tgt := 108) hx hb d_Mo_best_81 (by decide) (fun hc => ?_) (fun hc => ?_)
                · replace hv := hv.1 hc
                  refine lv_iload hx hb d_Mo_best_108 (lv_at hl 6 rfl) ?_
                  refine lv_goto (tgt := 114) hx hb d_Mo_best_110 (by decide) ?_
                  refine lv_istore_n (lv' := [(3, .int x4), (6, .int y73), (5, .int y59), (0, .ref (ad 29)), (1, .int x1), (2, .int x2), (4, .int x4)]) hx hb d_Mo_best_114 rfl hl (by decide) rfl (fun ls hl => ?_)
                  obtain ⟨y115, ey115⟩ : ∃ z : Int32, z = x4 + 1 := ⟨_, rfl⟩
                  replace hv := hv y115 ey115
                  refine lv_iinc (v := y115) (lv' := [(4, .int y115), (3, .int x4), (6, .int y73), (5, .int y59), (0, .ref (ad 29)), (1, .int x1), (2, .int x2)]) hx hb d_Mo_best_115 hl (k := 6) rfl (by rw [ey115]; rfl) (by decide) rfl (fun ls hl => ?_)
                  refine lv_goto (tgt := 11) hx hb d_Mo_best_118 (by decide) ?_
                  obtain ⟨hI, hm⟩ := hv
                  exact ih x1 x2 x4 y115 s69 t69 _ _ _ (Nat.lt_of_lt_of_le hm (Nat.le_of_lt_succ hn)) hI hP hD hS (lv_sub hl [4, 5, 6, 1, 0] rfl)
                · replace hv := hv.2 hc
                  refine lv_iload hx hb d_Mo_best_84 (lv_at hl 1 rfl) ?_
                  refine lv_if_ne (tgt := 113) hx hb d_Mo_best_86 (by decide) (fun hc => ?_) (fun hc => ?_)
                  · replace hv := hv.1 hc
                    refine lv_iload_n hx hb d_Mo_best_113 rfl (lv_at hl 5 rfl) ?_
                    refine lv_istore_n (lv' := [(3, .int x3), (6, .int y73), (5, .int y59), (0, .ref (ad 29)), (1, .int x1), (2, .int x2), (4, .int x4)]) hx hb d_Mo_best_114 rfl hl (by decide) rfl (fun ls hl => ?_)
                    obtain ⟨y115, ey115⟩ : ∃ z : Int32, z = x4 + 1 := ⟨_, rfl⟩
                    replace hv := hv y115 ey115
                    refine lv_iinc (v := y115) (lv' := [(4, .int y115), (3, .int x3), (6, .int y73), (5, .int y59), (0, .ref (ad 29)), (1, .int x1), (2, .int x2)]) hx hb d_Mo_best_115 hl (k := 6) rfl (by rw [ey115]; rfl) (by decide) rfl (fun ls hl => ?_)
                    refine lv_goto (tgt := 11) hx hb d_Mo_best_118 (by decide) ?_
                    obtain ⟨hI, hm⟩ := hv
                    exact ih x1 x2 x3 y115 s69 t69 _ _ _ (Nat.lt_of_lt_of_le hm (Nat.le_of_lt_succ hn)) hI hP hD hS (lv_sub hl [4, 5, 6, 1, 0] rfl)
                  · replace hv := hv.2 hc
                    refine lv_iload hx hb d_Mo_best_89 (lv_at hl 0 rfl) ?_
                    refine lv_if_lt (tgt := 108) hx hb d_Mo_best_91 (by decide) (fun hc => ?_) (fun hc => ?_)
                    · replace hv := hv.1 hc
                      refine lv_iload hx hb d_Mo_best_108 (lv_at hl 6 rfl) ?_
                      refine lv_goto (tgt := 114) hx hb d_Mo_best_110 (by decide) ?_
                      refine lv_istore_n (lv' := [(3, .int x4), (6, .int y73), (5, .int y59), (0, .ref (ad 29)), (1, .int x1), (2, .int x2), (4, .int x4)]) hx hb d_Mo_best_114 rfl hl (by decide) rfl (fun ls hl => ?_)
                      obtain ⟨y115, ey115⟩ : ∃ z : Int32, z = x4 + 1 := ⟨_, rfl⟩
                      replace hv := hv y115 ey115
                      refine lv_iinc (v := y115) (lv' := [(4, .int y115), (3, .int x4), (6, .int y73), (5, .int y59), (0, .ref (ad 29)), (1, .int x1), (2, .int x2)]) hx hb d_Mo_best_115 hl (k := 6) rfl (by rw [ey115]; rfl) (by decide) rfl (fun ls hl => ?_)
                      refine lv_goto (tgt := 11) hx hb d_Mo_best_118 (by decide) ?_
                      obtain ⟨hI, hm⟩ := hv
                      exact ih x1 x2 x4 y115 s69 t69 _ _ _ (Nat.lt_of_lt_of_le hm (Nat.le_of_lt_succ hn)) hI hP hD hS (lv_sub hl [4, 5, 6, 1, 0] rfl)
                    · replace hv := hv.2 hc
                      refine lv_iload hx hb d_Mo_best_94 (lv_at hl 0 rfl) ?_
                      refine lv_if_ne (tgt := 113) hx hb d_Mo_best_96 (by decide) (fun hc => ?_) (fun hc => ?_)
                      · replace hv := hv.1 hc
                        refine lv_iload_n hx hb d_Mo_best_113 rfl (lv_at hl 5 rfl) ?_
                        refine lv_istore_n (lv' := [(3, .int x3), (6, .int y73), (5, .int y59), (0, .ref (ad 29)), (1, .int x1), (2, .int x2), (4, .int x4)]) hx hb d_Mo_best_114 rfl hl (by decide) rfl (fun ls hl => ?_)
                        obtain ⟨y115, ey115⟩ : ∃ z : Int32, z = x4 + 1 := ⟨_, rfl⟩
                        replace hv := hv y115 ey115
                        refine lv_iinc (v := y115) (lv' := [(4, .int y115), (3, .int x3), (6, .int y73), (5, .int y59), (0, .ref (ad 29)), (1, .int x1), (2, .int x2)]) hx hb d_Mo_best_115 hl (k := 6) rfl (by rw [ey115]; rfl) (by decide) rfl (fun ls hl => ?_)
                        refine lv_goto (tgt := 11) hx hb d_Mo_best_118 (by decide) ?_
                        obtain ⟨hI, hm⟩ := hv
                        exact ih x1 x2 x3 y115 s69 t69 _ _ _ (Nat.lt_of_lt_of_le hm (Nat.le_of_lt_succ hn)) hI hP hD hS (lv_sub hl [4, 5, 6, 1, 0] rfl)
                      · replace hv := hv.2 hc
                        refine lv_iload hx hb d_Mo_best_99 (lv_at hl 6 rfl) ?_
                        refine lv_iload_n hx hb d_Mo_best_101 rfl (lv_at hl 5 rfl) ?_
                        obtain ⟨hg, hv⟩ := hv
                        refine gk_callSi (As := [.int x4, .int x3]) (rest := []) ⟨hx, hb, hml, hown, hts⟩ (h_Mo_isAhead _ s69 t69 x4 x3 hg) (gk_cwS 2 hts t_w311 rfl rfl rfl (hts _ t_w309) (hts _ t_w310) (hts _ t_w252) (by decide +kernel) ⟨Nat.le_of_ble_eq_true rfl, Nat.le_of_ble_eq_true rfl⟩) hK hP hD hS rfl hl.1 rfl (lv_room (Nat.le_of_ble_eq_true rfl)) d_Mo_best_102 ⟨Nat.zero_le _, Nat.zero_le _⟩ ?_
                        intro r102 s102 t102 H locs hw hP hD hS
                        replace hv := hv r102 s102 t102 hw
                        refine lv_if_eq (tgt := 113) hx hb d_Mo_best_105 (by decide) (fun hc => ?_) (fun hc => ?_)
                        · replace hv := hv.1 hc
                          refine lv_iload_n hx hb d_Mo_best_113 rfl (lv_at hl 5 rfl) ?_
                          refine lv_istore_n (lv' := [(3, .int x3), (6, .int y73), (5, .int y59), (0, .ref (ad 29)), (1, .int x1), (2, .int x2), (4, .int x4)]) hx hb d_Mo_best_114 rfl hl (by decide) rfl (fun ls hl => ?_)
                          obtain ⟨y115, ey115⟩ : ∃ z : Int32, z = x4 + 1 := ⟨_, rfl⟩
                          replace hv := hv y115 ey115
                          refine lv_iinc (v := y115) (lv' := [(4, .int y115), (3, .int x3), (6, .int y73), (5, .int y59), (0, .ref (ad 29)), (1, .int x1), (2, .int x2)]) hx hb d_Mo_best_115 hl (k := 6) rfl (by rw [ey115]; rfl) (by decide) rfl (fun ls hl => ?_)
                          refine lv_goto (tgt := 11) hx hb d_Mo_best_118 (by decide) ?_
                          obtain ⟨hI, hm⟩ := hv
                          exact ih x1 x2 x3 y115 s102 t102 _ _ _ (Nat.lt_of_lt_of_le hm (Nat.le_of_lt_succ hn)) hI hP hD hS (lv_sub hl [4, 5, 6, 1, 0] rfl)
                        · replace hv := hv.2 hc
                          refine lv_iload hx hb d_Mo_best_108 (lv_at hl 6 rfl) ?_
                          refine lv_goto (tgt := 114) hx hb d_Mo_best_110 (by decide) ?_
                          refine lv_istore_n (lv' := [(3, .int x4), (6, .int y73), (5, .int y59), (0, .ref (ad 29)), (1, .int x1), (2, .int x2), (4, .int x4)]) hx hb d_Mo_best_114 rfl hl (by decide) rfl (fun ls hl => ?_)
                          obtain ⟨y115, ey115⟩ : ∃ z : Int32, z = x4 + 1 := ⟨_, rfl⟩
                          replace hv := hv y115 ey115
                          refine lv_iinc (v := y115) (lv' := [(4, .int y115), (3, .int x4), (6, .int y73), (5, .int y59), (0, .ref (ad 29)), (1, .int x1), (2, .int x2)]) hx hb d_Mo_best_115 hl (k := 6) rfl (by rw [ey115]; rfl) (by decide) rfl (fun ls hl => ?_)
                          refine lv_goto (tgt := 11) hx hb d_Mo_best_118 (by decide) ?_
                          obtain ⟨hI, hm⟩ := hv
                          exact ih x1 x2 x4 y115 s102 t102 _ _ _ (Nat.lt_of_lt_of_le hm (Nat.le_of_lt_succ hn)) hI hP hD hS (lv_sub hl [4, 5, 6, 1, 0] rfl)
            · replace hv := hv.2 hc
              refine lv_goto (tgt := 115) hx hb d_Mo_best_44 (by decide) ?_
              obtain ⟨y115, ey115⟩ : ∃ z : Int32, z = x4 + 1 := ⟨_, rfl⟩
              replace hv := hv y115 ey115
              refine lv_iinc (v := y115) (lv' := [(4, .int y115), (0, .ref (ad 29)), (1, .int x1), (2, .int x2), (3, .int x3)]) hx hb d_Mo_best_115 hl (k := 4) rfl (by rw [ey115]; rfl) (by decide) rfl (fun ls hl => ?_)
              refine lv_goto (tgt := 11) hx hb d_Mo_best_118 (by decide) ?_
              obtain ⟨hI, hm⟩ := hv
              exact ih x1 x2 x3 y115 s32 t32 _ _ _ (Nat.lt_of_lt_of_le hm (Nat.le_of_lt_succ hn)) hI hP hD hS (lv_sub hl [1, 2, 3, 4, 0] rfl)
  have hv := v0 σ0 τ0 a1 hpre
  unfold s_Mo_best_0 at hv
  refine lv_aload_n hx hb d_Mo_best_0 rfl (lv_at hl 0 rfl) ?_
  refine lv_iload_n hx hb d_Mo_best_1 rfl (lv_at hl 1 rfl) ?_
  obtain ⟨hg, hv⟩ := hv
  refine gk_callVi (As := [.int a1]) (rest := []) (b := ad 29) ⟨hx, hb, hml, hown, hts⟩ (h_Mo_busy _ σ0 τ0 a1 hg) (gk_cwV 1 hts t_w300 rfl rfl rfl (hts _ t_w297) (hts _ t_w298) (hts _ t_w299) (hts _ t_w252) (by decide +kernel) ⟨Nat.le_of_ble_eq_true rfl, Nat.le_of_ble_eq_true rfl⟩) hK hP hD hS (va_recv hK hP (ci := 7) (q0 := 29) rfl rfl) rfl hl.1 rfl (lv_room (Nat.le_of_ble_eq_true rfl)) d_Mo_best_2 ⟨Nat.zero_le _, Nat.zero_le _⟩ ?_
  intro r2 s2 t2 H locs hw hP hD hS
  replace hv := hv r2 s2 t2 hw
  refine lv_istore_n (lv' := [(2, .int r2), (0, .ref (ad 29)), (1, .int a1)]) hx hb d_Mo_best_5 rfl hl (by decide) rfl (fun ls hl => ?_)
  refine lv_iconst (v := 0) hx hb d_Mo_best_6 (by decide) ?_
  refine lv_istore_n (lv' := [(3, .int 0), (2, .int r2), (0, .ref (ad 29)), (1, .int a1)]) hx hb d_Mo_best_7 rfl hl (by decide) rfl (fun ls hl => ?_)
  refine lv_iconst (v := 1) hx hb d_Mo_best_8 (by decide) ?_
  refine lv_istore (lv' := [(4, .int 1), (3, .int 0), (2, .int r2), (0, .ref (ad 29)), (1, .int a1)]) hx hb d_Mo_best_9 hl (by decide) rfl (fun ls hl => ?_)
  exact (hL _) a1 r2 0 1 s2 t2 _ _ _ (Nat.lt_succ_self _) hv hP hD hS (lv_sub hl [3, 4, 2, 1, 0] rfl)
theorem d_Mo_givesTugs_0 : decode b_Mo_givesTugs 0 = .ok (.iconst 0, 1) := by decide +kernel
theorem d_Mo_givesTugs_1 : decode b_Mo_givesTugs 1 = .ok (.istore_n 1, 1) := by decide +kernel
theorem d_Mo_givesTugs_2 : decode b_Mo_givesTugs 2 = .ok (.iconst 0, 1) := by decide +kernel
theorem d_Mo_givesTugs_3 : decode b_Mo_givesTugs 3 = .ok (.istore_n 2, 1) := by decide +kernel
theorem d_Mo_givesTugs_4 : decode b_Mo_givesTugs 4 = .ok (.iload_n 2, 1) := by decide +kernel
theorem d_Mo_givesTugs_5 : decode b_Mo_givesTugs 5 = .ok (.aload_n 0, 1) := by decide +kernel
theorem d_Mo_givesTugs_6 : decode b_Mo_givesTugs 6 = .ok (.getfield 68, 3) := by decide +kernel
theorem d_Mo_givesTugs_9 : decode b_Mo_givesTugs 9 = .ok (.if_icmp .ge 48, 3) := by decide +kernel
theorem d_Mo_givesTugs_12 : decode b_Mo_givesTugs 12 = .ok (.aload_n 0, 1) := by decide +kernel
theorem d_Mo_givesTugs_13 : decode b_Mo_givesTugs 13 = .ok (.getfield 52, 3) := by decide +kernel
theorem d_Mo_givesTugs_16 : decode b_Mo_givesTugs 16 = .ok (.iload_n 2, 1) := by decide +kernel
theorem d_Mo_givesTugs_17 : decode b_Mo_givesTugs 17 = .ok (.iconst 0, 1) := by decide +kernel
theorem d_Mo_givesTugs_18 : decode b_Mo_givesTugs 18 = .ok (.iastore, 1) := by decide +kernel
theorem d_Mo_givesTugs_19 : decode b_Mo_givesTugs 19 = .ok (.iload_n 1, 1) := by decide +kernel
theorem d_Mo_givesTugs_20 : decode b_Mo_givesTugs 20 = .ok (.aload_n 0, 1) := by decide +kernel
theorem d_Mo_givesTugs_21 : decode b_Mo_givesTugs 21 = .ok (.getfield 49, 3) := by decide +kernel
theorem d_Mo_givesTugs_24 : decode b_Mo_givesTugs 24 = .ok (.iload_n 2, 1) := by decide +kernel
theorem d_Mo_givesTugs_25 : decode b_Mo_givesTugs 25 = .ok (.iaload, 1) := by decide +kernel
theorem d_Mo_givesTugs_26 : decode b_Mo_givesTugs 26 = .ok (.aload_n 0, 1) := by decide +kernel
theorem d_Mo_givesTugs_27 : decode b_Mo_givesTugs 27 = .ok (.getfield 65, 3) := by decide +kernel
theorem d_Mo_givesTugs_30 : decode b_Mo_givesTugs 30 = .ok (.if_icmp .ge 18, 3) := by decide +kernel
theorem d_Mo_givesTugs_33 : decode b_Mo_givesTugs 33 = .ok (.aload_n 0, 1) := by decide +kernel
theorem d_Mo_givesTugs_34 : decode b_Mo_givesTugs 34 = .ok (.getfield 34, 3) := by decide +kernel
theorem d_Mo_givesTugs_37 : decode b_Mo_givesTugs 37 = .ok (.iload_n 2, 1) := by decide +kernel
theorem d_Mo_givesTugs_38 : decode b_Mo_givesTugs 38 = .ok (.iaload, 1) := by decide +kernel
theorem d_Mo_givesTugs_39 : decode b_Mo_givesTugs 39 = .ok (.ifCond .le 9, 3) := by decide +kernel
theorem d_Mo_givesTugs_42 : decode b_Mo_givesTugs 42 = .ok (.iconst 1, 1) := by decide +kernel
theorem d_Mo_givesTugs_43 : decode b_Mo_givesTugs 43 = .ok (.iload_n 2, 1) := by decide +kernel
theorem d_Mo_givesTugs_44 : decode b_Mo_givesTugs 44 = .ok (.ishl, 1) := by decide +kernel
theorem d_Mo_givesTugs_45 : decode b_Mo_givesTugs 45 = .ok (.goto 4, 3) := by decide +kernel
theorem d_Mo_givesTugs_48 : decode b_Mo_givesTugs 48 = .ok (.iconst 0, 1) := by decide +kernel
theorem d_Mo_givesTugs_49 : decode b_Mo_givesTugs 49 = .ok (.ior, 1) := by decide +kernel
theorem d_Mo_givesTugs_50 : decode b_Mo_givesTugs 50 = .ok (.istore_n 1, 1) := by decide +kernel
theorem d_Mo_givesTugs_51 : decode b_Mo_givesTugs 51 = .ok (.iinc 2 1, 3) := by decide +kernel
theorem d_Mo_givesTugs_54 : decode b_Mo_givesTugs 54 = .ok (.goto (-50), 3) := by decide +kernel
theorem d_Mo_givesTugs_57 : decode b_Mo_givesTugs 57 = .ok (.aload_n 0, 1) := by decide +kernel
theorem d_Mo_givesTugs_58 : decode b_Mo_givesTugs 58 = .ok (.iload_n 1, 1) := by decide +kernel
theorem d_Mo_givesTugs_59 : decode b_Mo_givesTugs 59 = .ok (.iconst (-1), 1) := by decide +kernel
theorem d_Mo_givesTugs_60 : decode b_Mo_givesTugs 60 = .ok (.invokevirtual 100, 3) := by decide +kernel
theorem d_Mo_givesTugs_63 : decode b_Mo_givesTugs 63 = .ok (.istore_n 2, 1) := by decide +kernel
theorem d_Mo_givesTugs_64 : decode b_Mo_givesTugs 64 = .ok (.iload_n 2, 1) := by decide +kernel
theorem d_Mo_givesTugs_65 : decode b_Mo_givesTugs 65 = .ok (.ifCond .lt 24, 3) := by decide +kernel
theorem d_Mo_givesTugs_68 : decode b_Mo_givesTugs 68 = .ok (.aload_n 0, 1) := by decide +kernel
theorem d_Mo_givesTugs_69 : decode b_Mo_givesTugs 69 = .ok (.getfield 52, 3) := by decide +kernel
theorem d_Mo_givesTugs_72 : decode b_Mo_givesTugs 72 = .ok (.iload_n 2, 1) := by decide +kernel
theorem d_Mo_givesTugs_73 : decode b_Mo_givesTugs 73 = .ok (.aload_n 0, 1) := by decide +kernel
theorem d_Mo_givesTugs_74 : decode b_Mo_givesTugs 74 = .ok (.iload_n 2, 1) := by decide +kernel
theorem d_Mo_givesTugs_75 : decode b_Mo_givesTugs 75 = .ok (.invokevirtual 146, 3) := by decide +kernel
theorem d_Mo_givesTugs_78 : decode b_Mo_givesTugs 78 = .ok (.iastore, 1) := by decide +kernel
theorem d_Mo_givesTugs_79 : decode b_Mo_givesTugs 79 = .ok (.aload_n 0, 1) := by decide +kernel
theorem d_Mo_givesTugs_80 : decode b_Mo_givesTugs 80 = .ok (.iload_n 1, 1) := by decide +kernel
theorem d_Mo_givesTugs_81 : decode b_Mo_givesTugs 81 = .ok (.iload_n 2, 1) := by decide +kernel
theorem d_Mo_givesTugs_82 : decode b_Mo_givesTugs 82 = .ok (.invokevirtual 100, 3) := by decide +kernel
theorem d_Mo_givesTugs_85 : decode b_Mo_givesTugs 85 = .ok (.istore_n 2, 1) := by decide +kernel
theorem d_Mo_givesTugs_86 : decode b_Mo_givesTugs 86 = .ok (.goto (-22), 3) := by decide +kernel
theorem d_Mo_givesTugs_89 : decode b_Mo_givesTugs 89 = .ok (.return_, 1) := by decide +kernel
def s_Mo_givesTugs_0 (P_Mo_next : MI → ML → Int32 → Int32 → Prop) (Q_Mo_next : MI → ML → Int32 → Int32 → Int32 → MI → ML → Prop) (P_Mo_best : MI → ML → Int32 → Prop) (Q_Mo_best : MI → ML → Int32 → Int32 → MI → ML → Prop) (σ : MI) (τ : ML) (K4 : Int32 → Int32 → MI → ML → Prop) (K64 : Int32 → Int32 → MI → ML → Prop) (R : MI → ML → Prop) : Prop :=
  K4 0 0 σ τ
def s_Mo_givesTugs_4 (P_Mo_next : MI → ML → Int32 → Int32 → Prop) (Q_Mo_next : MI → ML → Int32 → Int32 → Int32 → MI → ML → Prop) (P_Mo_best : MI → ML → Int32 → Prop) (Q_Mo_best : MI → ML → Int32 → Int32 → MI → ML → Prop) (σ : MI) (τ : ML) (x1 : Int32) (x2 : Int32) (K4 : Int32 → Int32 → MI → ML → Prop) (K64 : Int32 → Int32 → MI → ML → Prop) (R : MI → ML → Prop) : Prop :=
  ((σ 29 10) ≤ x2 →
  (P_Mo_next σ τ x1 ((-1)) ∧ ∀ (r60 : Int32) (s60 : MI) (t60 : ML), Q_Mo_next σ τ x1 ((-1)) r60 s60 t60 → (K64 x1 r60 s60 t60))) ∧
  (¬ (σ 29 10) ≤ x2 →
  (vp_in x2 7 ∧ (∀ s18 : MI, s18 = st2 σ 44 (Int32.toNatClampNeg x2) 0 → (vp_in x2 7 ∧ (((s18 29 1) ≤ (s18 43 (Int32.toNatClampNeg x2)) →
    (∀ y50 : Int32, y50 = x1 ||| 0 → (∀ y51 : Int32, y51 = x2 + 1 → (K4 y50 y51 s18 τ)))) ∧
    (¬ (s18 29 1) ≤ (s18 43 (Int32.toNatClampNeg x2)) →
    (vp_in x2 7 ∧ (((s18 38 (Int32.toNatClampNeg x2)) ≤ 0 →
      (∀ y50 : Int32, y50 = x1 ||| 0 → (∀ y51 : Int32, y51 = x2 + 1 → (K4 y50 y51 s18 τ)))) ∧
      (¬ (s18 38 (Int32.toNatClampNeg x2)) ≤ 0 →
      (∀ y50 : Int32, y50 = x1 ||| (1 <<< (x2 &&& 31)) → (∀ y51 : Int32, y51 = x2 + 1 → (K4 y50 y51 s18 τ))))))))))))
def s_Mo_givesTugs_64 (P_Mo_next : MI → ML → Int32 → Int32 → Prop) (Q_Mo_next : MI → ML → Int32 → Int32 → Int32 → MI → ML → Prop) (P_Mo_best : MI → ML → Int32 → Prop) (Q_Mo_best : MI → ML → Int32 → Int32 → MI → ML → Prop) (σ : MI) (τ : ML) (x1 : Int32) (x2 : Int32) (K4 : Int32 → Int32 → MI → ML → Prop) (K64 : Int32 → Int32 → MI → ML → Prop) (R : MI → ML → Prop) : Prop :=
  (x2 < 0 →
  (R σ τ)) ∧
  (¬ x2 < 0 →
  (P_Mo_best σ τ x2 ∧ ∀ (r75 : Int32) (s75 : MI) (t75 : ML), Q_Mo_best σ τ x2 r75 s75 t75 → (vp_in x2 7 ∧ (∀ s78 : MI, s78 = st2 s75 44 (Int32.toNatClampNeg x2) r75 → (P_Mo_next s78 t75 x1 x2 ∧ ∀ (r82 : Int32) (s82 : MI) (t82 : ML), Q_Mo_next s78 t75 x1 x2 r82 s82 t82 → (K64 x1 r82 s82 t82))))))
set_option maxHeartbeats 4000000 in
set_option maxRecDepth 100000 in
theorem k_Mo_givesTugs (l : Launch) (D : va_G) (ad : Nat → Nat) (ci cl : ClassId)
    (pre : MI → ML → Prop) (post : MI → ML → MI → ML → Prop) (P_Mo_next : MI → ML → Int32 → Int32 → Prop) (Q_Mo_next : MI → ML → Int32 → Int32 → Int32 → MI → ML → Prop) (P_Mo_best : MI → ML → Int32 → Prop) (Q_Mo_best : MI → ML → Int32 → Int32 → MI → ML → Prop)
    (h_Mo_next : ∀ (sz : Nat) (σ : MI) (τ : ML) (b0 : Int32) (b1 : Int32), P_Mo_next σ τ b0 b1 → gMi l D (xw ad ci cl) (xt ci cl) (xa ad) y_Mo_next w_Mo_next rm_Mo_next [.ref (ad 29), .int b0, .int b1] sz σ τ (Q_Mo_next σ τ b0 b1))
    (h_Mo_best : ∀ (sz : Nat) (σ : MI) (τ : ML) (b0 : Int32), P_Mo_best σ τ b0 → gMi l D (xw ad ci cl) (xt ci cl) (xa ad) y_Mo_best w_Mo_best rm_Mo_best [.ref (ad 29), .int b0] sz σ τ (Q_Mo_best σ τ b0))
    (I4 : MI → ML → Int32 → Int32 → MI → ML → Prop) (m4 : MI → ML → Int32 → Int32 → MI → ML → Nat)
    (I64 : MI → ML → Int32 → Int32 → MI → ML → Prop) (m64 : MI → ML → Int32 → Int32 → MI → ML → Nat)
    (v0 : ∀ (σ0 : MI) (τ0 : ML), pre σ0 τ0 → s_Mo_givesTugs_0 P_Mo_next Q_Mo_next P_Mo_best Q_Mo_best σ0 τ0 (fun z0 z1 σ9 τ9 => I4 σ0 τ0 z0 z1 σ9 τ9) (fun z0 z1 σ9 τ9 => I64 σ0 τ0 z0 z1 σ9 τ9) (post σ0 τ0))
    (v4 : ∀ (σ0 : MI) (τ0 : ML) (x1 : Int32) (x2 : Int32) (σ : MI) (τ : ML), I4 σ0 τ0 x1 x2 σ τ → s_Mo_givesTugs_4 P_Mo_next Q_Mo_next P_Mo_best Q_Mo_best σ τ x1 x2 (fun z0 z1 σ9 τ9 => I4 σ0 τ0 z0 z1 σ9 τ9 ∧ m4 σ0 τ0 z0 z1 σ9 τ9 < m4 σ0 τ0 x1 x2 σ τ) (fun z0 z1 σ9 τ9 => I64 σ0 τ0 z0 z1 σ9 τ9 ∧ m64 σ0 τ0 z0 z1 σ9 τ9 < m4 σ0 τ0 x1 x2 σ τ) (post σ0 τ0))
    (v64 : ∀ (σ0 : MI) (τ0 : ML) (x1 : Int32) (x2 : Int32) (σ : MI) (τ : ML), I64 σ0 τ0 x1 x2 σ τ → s_Mo_givesTugs_64 P_Mo_next Q_Mo_next P_Mo_best Q_Mo_best σ τ x1 x2 (fun z0 z1 σ9 τ9 => I4 σ0 τ0 z0 z1 σ9 τ9 ∧ m4 σ0 τ0 z0 z1 σ9 τ9 < m64 σ0 τ0 x1 x2 σ τ) (fun z0 z1 σ9 τ9 => I64 σ0 τ0 z0 z1 σ9 τ9 ∧ m64 σ0 τ0 z0 z1 σ9 τ9 < m64 σ0 τ0 x1 x2 σ τ) (post σ0 τ0)) :
    ∀ (sz : Nat) (σ0 : MI) (τ0 : ML), pre σ0 τ0 → gMv l D (xw ad ci cl) (xt ci cl) (xa ad) y_Mo_givesTugs w_Mo_givesTugs rm_Mo_givesTugs [.ref (ad 29)] sz σ0 τ0 (post σ0 τ0) := by
  intro sz σ0 τ0 hpre
  refine gk_ofWv (cc := b_Mo_givesTugs) (maxL := 3) (ret := none) (by decide) rfl xa_ok (Nat.le_of_ble_eq_true rfl) ?_
  intro p e s m below meth c ls hx hb hr hlocks hml hown hts hK hP hD hS hl
  have hl : lv_has ls 3 [(0, .ref (ad 29))] := hl
  have hown : s.vm.findClass R_Mo = some m.cls := hown
  have hL : ∀ n : Nat, (∀ (x1 : Int32) (x2 : Int32) (σ : MI) (τ : ML) (H : Heap) (locs : List Loc) (ls : Array Slot), m4 σ0 τ0 x1 x2 σ τ < n → I4 σ0 τ0 x1 x2 σ τ → va_P D classes ((xw ad ci cl) σ τ) H → va_D (gA (xa ad) s.heap.size) ((xw ad ci cl) σ τ) → va_S (gA (xa ad) s.heap.size) s.heap H locs → lv_has ls 3 [(0, .ref (ad 29)), (1, .int x1), (2, .int x2)] → W p l e rm_Mo_givesTugs s m [.ref (ad 29)].toArray below meth c H locs 0 0 (gQv D (xw ad ci cl) (xt ci cl) (xa ad) below [.ref (ad 29)] s (post σ0 τ0)) (F0 m 4 ls [])) ∧
      (∀ (x1 : Int32) (x2 : Int32) (σ : MI) (τ : ML) (H : Heap) (locs : List Loc) (ls : Array Slot), m64 σ0 τ0 x1 x2 σ τ < n → I64 σ0 τ0 x1 x2 σ τ → va_P D classes ((xw ad ci cl) σ τ) H → va_D (gA (xa ad) s.heap.size) ((xw ad ci cl) σ τ) → va_S (gA (xa ad) s.heap.size) s.heap H locs → lv_has ls 3 [(0, .ref (ad 29)), (1, .int x1), (2, .int x2)] → W p l e rm_Mo_givesTugs s m [.ref (ad 29)].toArray below meth c H locs 0 0 (gQv D (xw ad ci cl) (xt ci cl) (xa ad) below [.ref (ad 29)] s (post σ0 τ0)) (F0 m 64 ls [])) := by
    intro n
    induction n with
    | zero => exact ⟨fun _ _ _ _ _ _ _ hn => absurd hn (Nat.not_lt_zero _), fun _ _ _ _ _ _ _ hn => absurd hn (Nat.not_lt_zero _)⟩
    | succ n ih =>
      refine ⟨?_, ?_⟩
      · intro x1 x2 σ τ H locs ls hn hI hP hD hS hl
        have hv := v4 σ0 τ0 x1 x2 σ τ hI
        unfold s_Mo_givesTugs_4 at hv
        refine lv_iload_n hx hb d_Mo_givesTugs_4 rfl (lv_at hl 2 rfl) ?_
        refine lv_aload_n hx hb d_Mo_givesTugs_5 rfl (lv_at hl 0 rfl) ?_
        refine va_get (D := D) (ci := 7) (v := .int (σ 29 10)) (C := R_Mo) (T := F_Mo) (N := 24) hx hb hts iw_Mo hown hK hP 29 rfl rfl 10 (by decide) (hts _ t_w249) (fun _ h9 => h9) rfl d_Mo_givesTugs_6 ?_
        refine lv_icmp_ge (tgt := 57) hx hb d_Mo_givesTugs_9 (by decide) (fun hc => ?_) (fun hc => ?_)
        · replace hv := hv.1 hc
          refine lv_aload_n hx hb d_Mo_givesTugs_57 rfl (lv_at hl 0 rfl) ?_
          refine lv_iload_n hx hb d_Mo_givesTugs_58 rfl (lv_at hl 1 rfl) ?_
          refine lv_iconst (v := (-1)) hx hb d_Mo_givesTugs_59 (by decide) ?_
          obtain ⟨hg, hv⟩ := hv
          refine gk_callVi (As := [.int x1, .int ((-1))]) (rest := []) (b := ad 29) ⟨hx, hb, hml, hown, hts⟩ (h_Mo_next _ σ τ x1 ((-1)) hg) (gk_cwV 2 hts t_w286 rfl rfl rfl (hts _ t_w283) (hts _ t_w284) (hts _ t_w285) (hts _ t_w252) (by decide +kernel) ⟨Nat.le_of_ble_eq_true rfl, Nat.le_of_ble_eq_true rfl⟩) hK hP hD hS (va_recv hK hP (ci := 7) (q0 := 29) rfl rfl) rfl hl.1 rfl (lv_room (Nat.le_of_ble_eq_true rfl)) d_Mo_givesTugs_60 ⟨Nat.zero_le _, Nat.zero_le _⟩ ?_
          intro r60 s60 t60 H locs hw hP hD hS
          replace hv := hv r60 s60 t60 hw
          refine lv_istore_n (lv' := [(2, .int r60), (0, .ref (ad 29)), (1, .int x1)]) hx hb d_Mo_givesTugs_63 rfl hl (by decide) rfl (fun ls hl => ?_)
          obtain ⟨hI, hm⟩ := hv
          exact ih.2 x1 r60 s60 t60 _ _ _ (Nat.lt_of_lt_of_le hm (Nat.le_of_lt_succ hn)) hI hP hD hS (lv_sub hl [1, 2, 0] rfl)
        · replace hv := hv.2 hc
          refine lv_aload_n hx hb d_Mo_givesTugs_12 rfl (lv_at hl 0 rfl) ?_
          refine va_get (D := D) (ci := 7) (v := .ref (ad 44)) (C := R_Mo) (T := F_Mo) (N := 24) hx hb hts iw_Mo hown hK hP 29 rfl rfl 20 (by decide) (hts _ t_w296) (fun _ h9 => h9) rfl d_Mo_givesTugs_13 ?_
          refine lv_iload_n hx hb d_Mo_givesTugs_16 rfl (lv_at hl 2 rfl) ?_
          refine lv_iconst (v := 0) hx hb d_Mo_givesTugs_17 (by decide) ?_
          obtain ⟨hi, hv⟩ := hv
          refine va_iast hx hb hK hP hD hS 44 0 rfl rfl hi d_Mo_givesTugs_18 (fun H locs hP hD hS => ?_)
          rw [xa_44] at hP hD
          obtain ⟨s18, es18⟩ : ∃ z : MI, z = st2 σ 44 (Int32.toNatClampNeg x2) 0 := ⟨_, rfl⟩
          rw [← es18] at hP hD
          replace hv := hv s18 es18
          refine lv_iload_n hx hb d_Mo_givesTugs_19 rfl (lv_at hl 1 rfl) ?_
          refine lv_aload_n hx hb d_Mo_givesTugs_20 rfl (lv_at hl 0 rfl) ?_
          refine va_get (D := D) (ci := 7) (v := .ref (ad 43)) (C := R_Mo) (T := F_Mo) (N := 24) hx hb hts iw_Mo hown hK hP 29 rfl rfl 19 (by decide) (hts _ t_w312) (fun _ h9 => h9) rfl d_Mo_givesTugs_21 ?_
          refine lv_iload_n hx hb d_Mo_givesTugs_24 rfl (lv_at hl 2 rfl) ?_
          obtain ⟨hi, hv⟩ := hv
          refine va_iald hx hb hK hP 43 0 rfl rfl hi d_Mo_givesTugs_25 ?_
          refine lv_aload_n hx hb d_Mo_givesTugs_26 rfl (lv_at hl 0 rfl) ?_
          refine va_get (D := D) (ci := 7) (v := .int (s18 29 1)) (C := R_Mo) (T := F_Mo) (N := 24) hx hb hts iw_Mo hown hK hP 29 rfl rfl 1 (by decide) (hts _ t_w248) (fun _ h9 => h9) rfl d_Mo_givesTugs_27 ?_
          refine lv_icmp_ge (tgt := 48) hx hb d_Mo_givesTugs_30 (by decide) (fun hc => ?_) (fun hc => ?_)
          · replace hv := hv.1 hc
            refine lv_iconst (v := 0) hx hb d_Mo_givesTugs_48 (by decide) ?_
            refine lv_ior hx hb d_Mo_givesTugs_49 ?_
            refine lv_topi (fun y50 ey50 => ?_)
            replace hv := hv y50 ey50
            refine lv_istore_n (lv' := [(1, .int y50), (0, .ref (ad 29)), (2, .int x2)]) hx hb d_Mo_givesTugs_50 rfl hl (by decide) rfl (fun ls hl => ?_)
            obtain ⟨y51, ey51⟩ : ∃ z : Int32, z = x2 + 1 := ⟨_, rfl⟩
            replace hv := hv y51 ey51
            refine lv_iinc (v := y51) (lv' := [(2, .int y51), (1, .int y50), (0, .ref (ad 29))]) hx hb d_Mo_givesTugs_51 hl (k := 2) rfl (by rw [ey51]; rfl) (by decide) rfl (fun ls hl => ?_)
            refine lv_goto (tgt := 4) hx hb d_Mo_givesTugs_54 (by decide) ?_
            obtain ⟨hI, hm⟩ := hv
            exact ih.1 y50 y51 s18 τ _ _ _ (Nat.lt_of_lt_of_le hm (Nat.le_of_lt_succ hn)) hI hP hD hS (lv_sub hl [2, 1, 0] rfl)
          · replace hv := hv.2 hc
            refine lv_aload_n hx hb d_Mo_givesTugs_33 rfl (lv_at hl 0 rfl) ?_
            refine va_get (D := D) (ci := 7) (v := .ref (ad 38)) (C := R_Mo) (T := F_Mo) (N := 24) hx hb hts iw_Mo hown hK hP 29 rfl rfl 12 (by decide) (hts _ t_w272) (fun _ h9 => h9) rfl d_Mo_givesTugs_34 ?_
            refine lv_iload_n hx hb d_Mo_givesTugs_37 rfl (lv_at hl 2 rfl) ?_
            obtain ⟨hi, hv⟩ := hv
            refine va_iald hx hb hK hP 38 0 rfl rfl hi d_Mo_givesTugs_38 ?_
            refine lv_if_le (tgt := 48) hx hb d_Mo_givesTugs_39 (by decide) (fun hc => ?_) (fun hc => ?_)
            · replace hv := hv.1 hc
              refine lv_iconst (v := 0) hx hb d_Mo_givesTugs_48 (by decide) ?_
              refine lv_ior hx hb d_Mo_givesTugs_49 ?_
              refine lv_topi (fun y50 ey50 => ?_)
              replace hv := hv y50 ey50
              refine lv_istore_n (lv' := [(1, .int y50), (0, .ref (ad 29)), (2, .int x2)]) hx hb d_Mo_givesTugs_50 rfl hl (by decide) rfl (fun ls hl => ?_)
              obtain ⟨y51, ey51⟩ : ∃ z : Int32, z = x2 + 1 := ⟨_, rfl⟩
              replace hv := hv y51 ey51
              refine lv_iinc (v := y51) (lv' := [(2, .int y51), (1, .int y50), (0, .ref (ad 29))]) hx hb d_Mo_givesTugs_51 hl (k := 2) rfl (by rw [ey51]; rfl) (by decide) rfl (fun ls hl => ?_)
              refine lv_goto (tgt := 4) hx hb d_Mo_givesTugs_54 (by decide) ?_
              obtain ⟨hI, hm⟩ := hv
              exact ih.1 y50 y51 s18 τ _ _ _ (Nat.lt_of_lt_of_le hm (Nat.le_of_lt_succ hn)) hI hP hD hS (lv_sub hl [2, 1, 0] rfl)
            · replace hv := hv.2 hc
              refine lv_iconst (v := 1) hx hb d_Mo_givesTugs_42 (by decide) ?_
              refine lv_iload_n hx hb d_Mo_givesTugs_43 rfl (lv_at hl 2 rfl) ?_
              refine lv_ishl hx hb d_Mo_givesTugs_44 ?_
              refine lv_goto (tgt := 49) hx hb d_Mo_givesTugs_45 (by decide) ?_
              refine lv_ior hx hb d_Mo_givesTugs_49 ?_
              refine lv_topi (fun y50 ey50 => ?_)
              replace hv := hv y50 ey50
              refine lv_istore_n (lv' := [(1, .int y50), (0, .ref (ad 29)), (2, .int x2)]) hx hb d_Mo_givesTugs_50 rfl hl (by decide) rfl (fun ls hl => ?_)
              obtain ⟨y51, ey51⟩ : ∃ z : Int32, z = x2 + 1 := ⟨_, rfl⟩
              replace hv := hv y51 ey51
              refine lv_iinc (v := y51) (lv' := [(2, .int y51), (1, .int y50), (0, .ref (ad 29))]) hx hb d_Mo_givesTugs_51 hl (k := 2) rfl (by rw [ey51]; rfl) (by decide) rfl (fun ls hl => ?_)
              refine lv_goto (tgt := 4) hx hb d_Mo_givesTugs_54 (by decide) ?_
              obtain ⟨hI, hm⟩ := hv
              exact ih.1 y50 y51 s18 τ _ _ _ (Nat.lt_of_lt_of_le hm (Nat.le_of_lt_succ hn)) hI hP hD hS (lv_sub hl [2, 1, 0] rfl)
      · intro x1 x2 σ τ H locs ls hn hI hP hD hS hl
        have hv := v64 σ0 τ0 x1 x2 σ τ hI
        unfold s_Mo_givesTugs_64 at hv
        refine lv_iload_n hx hb d_Mo_givesTugs_64 rfl (lv_at hl 2 rfl) ?_
        refine lv_if_lt (tgt := 89) hx hb d_Mo_givesTugs_65 (by decide) (fun hc => ?_) (fun hc => ?_)
        · replace hv := hv.1 hc
          exact gk_vret hx hb hr hlocks hK hP hD hS hv d_Mo_givesTugs_89
        · replace hv := hv.2 hc
          refine lv_aload_n hx hb d_Mo_givesTugs_68 rfl (lv_at hl 0 rfl) ?_
          refine va_get (D := D) (ci := 7) (v := .ref (ad 44)) (C := R_Mo) (T := F_Mo) (N := 24) hx hb hts iw_Mo hown hK hP 29 rfl rfl 20 (by decide) (hts _ t_w296) (fun _ h9 => h9) rfl d_Mo_givesTugs_69 ?_
          refine lv_iload_n hx hb d_Mo_givesTugs_72 rfl (lv_at hl 2 rfl) ?_
          refine lv_aload_n hx hb d_Mo_givesTugs_73 rfl (lv_at hl 0 rfl) ?_
          refine lv_iload_n hx hb d_Mo_givesTugs_74 rfl (lv_at hl 2 rfl) ?_
          obtain ⟨hg, hv⟩ := hv
          refine gk_callVi (As := [.int x2]) (rest := [.int x2, .ref (ad 44)]) (b := ad 29) ⟨hx, hb, hml, hown, hts⟩ (h_Mo_best _ σ τ x2 hg) (gk_cwV 1 hts t_w316 rfl rfl rfl (hts _ t_w313) (hts _ t_w314) (hts _ t_w315) (hts _ t_w252) (by decide +kernel) ⟨Nat.le_of_ble_eq_true rfl, Nat.le_of_ble_eq_true rfl⟩) hK hP hD hS (va_recv hK hP (ci := 7) (q0 := 29) rfl rfl) rfl hl.1 rfl (lv_room (Nat.le_of_ble_eq_true rfl)) d_Mo_givesTugs_75 ⟨Nat.zero_le _, Nat.zero_le _⟩ ?_
          intro r75 s75 t75 H locs hw hP hD hS
          replace hv := hv r75 s75 t75 hw
          obtain ⟨hi, hv⟩ := hv
          refine va_iast hx hb hK hP hD hS 44 0 rfl rfl hi d_Mo_givesTugs_78 (fun H locs hP hD hS => ?_)
          rw [xa_44] at hP hD
          obtain ⟨s78, es78⟩ : ∃ z : MI, z = st2 s75 44 (Int32.toNatClampNeg x2) r75 := ⟨_, rfl⟩
          rw [← es78] at hP hD
          replace hv := hv s78 es78
          refine lv_aload_n hx hb d_Mo_givesTugs_79 rfl (lv_at hl 0 rfl) ?_
          refine lv_iload_n hx hb d_Mo_givesTugs_80 rfl (lv_at hl 1 rfl) ?_
          refine lv_iload_n hx hb d_Mo_givesTugs_81 rfl (lv_at hl 2 rfl) ?_
          obtain ⟨hg, hv⟩ := hv
          refine gk_callVi (As := [.int x1, .int x2]) (rest := []) (b := ad 29) ⟨hx, hb, hml, hown, hts⟩ (h_Mo_next _ s78 t75 x1 x2 hg) (gk_cwV 2 hts t_w286 rfl rfl rfl (hts _ t_w283) (hts _ t_w284) (hts _ t_w285) (hts _ t_w252) (by decide +kernel) ⟨Nat.le_of_ble_eq_true rfl, Nat.le_of_ble_eq_true rfl⟩) hK hP hD hS (va_recv hK hP (ci := 7) (q0 := 29) rfl rfl) rfl hl.1 rfl (lv_room (Nat.le_of_ble_eq_true rfl)) d_Mo_givesTugs_82 ⟨Nat.zero_le _, Nat.zero_le _⟩ ?_
          intro r82 s82 t82 H locs hw hP hD hS
          replace hv := hv r82 s82 t82 hw
          refine lv_istore_n (lv' := [(2, .int r82), (0, .ref (ad 29)), (1, .int x1)]) hx hb d_Mo_givesTugs_85 rfl hl (by decide) rfl (fun ls hl => ?_)
          refine lv_goto (tgt := 64) hx hb d_Mo_givesTugs_86 (by decide) ?_
          obtain ⟨hI, hm⟩ := hv
          exact ih.2 x1 r82 s82 t82 _ _ _ (Nat.lt_of_lt_of_le hm (Nat.le_of_lt_succ hn)) hI hP hD hS (lv_sub hl [1, 2, 0] rfl)
  have hv := v0 σ0 τ0 hpre
  unfold s_Mo_givesTugs_0 at hv
  refine lv_iconst (v := 0) hx hb d_Mo_givesTugs_0 (by decide) ?_
  refine lv_istore_n (lv' := [(1, .int 0), (0, .ref (ad 29))]) hx hb d_Mo_givesTugs_1 rfl hl (by decide) rfl (fun ls hl => ?_)
  refine lv_iconst (v := 0) hx hb d_Mo_givesTugs_2 (by decide) ?_
  refine lv_istore_n (lv' := [(2, .int 0), (1, .int 0), (0, .ref (ad 29))]) hx hb d_Mo_givesTugs_3 rfl hl (by decide) rfl (fun ls hl => ?_)
  exact (hL _).1 0 0 σ0 τ0 _ _ _ (Nat.lt_succ_self _) hv hP hD hS (lv_sub hl [2, 1, 0] rfl)
theorem d_Mo_search_0 : decode b_Mo_search 0 = .ok (.aload_n 0, 1) := by decide +kernel
theorem d_Mo_search_1 : decode b_Mo_search 1 = .ok (.invokevirtual 111, 3) := by decide +kernel
theorem d_Mo_search_4 : decode b_Mo_search 4 = .ok (.iconst 0, 1) := by decide +kernel
theorem d_Mo_search_5 : decode b_Mo_search 5 = .ok (.istore_n 1, 1) := by decide +kernel
theorem d_Mo_search_6 : decode b_Mo_search 6 = .ok (.iload_n 1, 1) := by decide +kernel
theorem d_Mo_search_7 : decode b_Mo_search 7 = .ok (.aload_n 0, 1) := by decide +kernel
theorem d_Mo_search_8 : decode b_Mo_search 8 = .ok (.getfield 65, 3) := by decide +kernel
theorem d_Mo_search_11 : decode b_Mo_search 11 = .ok (.if_icmp .ge 62, 3) := by decide +kernel
theorem d_Mo_search_14 : decode b_Mo_search 14 = .ok (.iconst 0, 1) := by decide +kernel
theorem d_Mo_search_15 : decode b_Mo_search 15 = .ok (.istore_n 2, 1) := by decide +kernel
theorem d_Mo_search_16 : decode b_Mo_search 16 = .ok (.iload_n 2, 1) := by decide +kernel
theorem d_Mo_search_17 : decode b_Mo_search 17 = .ok (.iconst 1, 1) := by decide +kernel
theorem d_Mo_search_18 : decode b_Mo_search 18 = .ok (.aload_n 0, 1) := by decide +kernel
theorem d_Mo_search_19 : decode b_Mo_search 19 = .ok (.getfield 68, 3) := by decide +kernel
theorem d_Mo_search_22 : decode b_Mo_search 22 = .ok (.ishl, 1) := by decide +kernel
theorem d_Mo_search_23 : decode b_Mo_search 23 = .ok (.if_icmp .ge 44, 3) := by decide +kernel
theorem d_Mo_search_26 : decode b_Mo_search 26 = .ok (.aload_n 0, 1) := by decide +kernel
theorem d_Mo_search_27 : decode b_Mo_search 27 = .ok (.getfield 55, 3) := by decide +kernel
theorem d_Mo_search_30 : decode b_Mo_search 30 = .ok (.sipush 128, 3) := by decide +kernel
theorem d_Mo_search_33 : decode b_Mo_search 33 = .ok (.iload_n 1, 1) := by decide +kernel
theorem d_Mo_search_34 : decode b_Mo_search 34 = .ok (.imul, 1) := by decide +kernel
theorem d_Mo_search_35 : decode b_Mo_search 35 = .ok (.iload_n 2, 1) := by decide +kernel
theorem d_Mo_search_36 : decode b_Mo_search 36 = .ok (.iadd, 1) := by decide +kernel
theorem d_Mo_search_37 : decode b_Mo_search 37 = .ok (.aload_n 0, 1) := by decide +kernel
theorem d_Mo_search_38 : decode b_Mo_search 38 = .ok (.iload_n 1, 1) := by decide +kernel
theorem d_Mo_search_39 : decode b_Mo_search 39 = .ok (.invokevirtual 114, 3) := by decide +kernel
theorem d_Mo_search_42 : decode b_Mo_search 42 = .ok (.ifCond .eq 12, 3) := by decide +kernel
theorem d_Mo_search_45 : decode b_Mo_search 45 = .ok (.iload_n 2, 1) := by decide +kernel
theorem d_Mo_search_46 : decode b_Mo_search 46 = .ok (.ifCond .le 8, 3) := by decide +kernel
theorem d_Mo_search_49 : decode b_Mo_search 49 = .ok (.ldc 104, 2) := by decide +kernel
theorem d_Mo_search_51 : decode b_Mo_search 51 = .ok (.goto 9, 3) := by decide +kernel
theorem d_Mo_search_54 : decode b_Mo_search 54 = .ok (.aload_n 0, 1) := by decide +kernel
theorem d_Mo_search_55 : decode b_Mo_search 55 = .ok (.iload_n 1, 1) := by decide +kernel
theorem d_Mo_search_56 : decode b_Mo_search 56 = .ok (.iload_n 2, 1) := by decide +kernel
theorem d_Mo_search_57 : decode b_Mo_search 57 = .ok (.invokevirtual 117, 3) := by decide +kernel
theorem d_Mo_search_60 : decode b_Mo_search 60 = .ok (.iastore, 1) := by decide +kernel
theorem d_Mo_search_61 : decode b_Mo_search 61 = .ok (.iinc 2 1, 3) := by decide +kernel
theorem d_Mo_search_64 : decode b_Mo_search 64 = .ok (.goto (-48), 3) := by decide +kernel
theorem d_Mo_search_67 : decode b_Mo_search 67 = .ok (.iinc 1 1, 3) := by decide +kernel
theorem d_Mo_search_70 : decode b_Mo_search 70 = .ok (.goto (-64), 3) := by decide +kernel
theorem d_Mo_search_73 : decode b_Mo_search 73 = .ok (.iconst 0, 1) := by decide +kernel
theorem d_Mo_search_74 : decode b_Mo_search 74 = .ok (.istore_n 1, 1) := by decide +kernel
theorem d_Mo_search_75 : decode b_Mo_search 75 = .ok (.iload_n 1, 1) := by decide +kernel
theorem d_Mo_search_76 : decode b_Mo_search 76 = .ok (.aload_n 0, 1) := by decide +kernel
theorem d_Mo_search_77 : decode b_Mo_search 77 = .ok (.getfield 68, 3) := by decide +kernel
theorem d_Mo_search_80 : decode b_Mo_search 80 = .ok (.if_icmp .ge 16, 3) := by decide +kernel
theorem d_Mo_search_83 : decode b_Mo_search 83 = .ok (.aload_n 0, 1) := by decide +kernel
theorem d_Mo_search_84 : decode b_Mo_search 84 = .ok (.getfield 58, 3) := by decide +kernel
theorem d_Mo_search_87 : decode b_Mo_search 87 = .ok (.iload_n 1, 1) := by decide +kernel
theorem d_Mo_search_88 : decode b_Mo_search 88 = .ok (.iconst 0, 1) := by decide +kernel
theorem d_Mo_search_89 : decode b_Mo_search 89 = .ok (.iastore, 1) := by decide +kernel
theorem d_Mo_search_90 : decode b_Mo_search 90 = .ok (.iinc 1 1, 3) := by decide +kernel
theorem d_Mo_search_93 : decode b_Mo_search 93 = .ok (.goto (-18), 3) := by decide +kernel
theorem d_Mo_search_96 : decode b_Mo_search 96 = .ok (.iconst (-1), 1) := by decide +kernel
theorem d_Mo_search_97 : decode b_Mo_search 97 = .ok (.istore_n 1, 1) := by decide +kernel
theorem d_Mo_search_98 : decode b_Mo_search 98 = .ok (.ldc 104, 2) := by decide +kernel
theorem d_Mo_search_100 : decode b_Mo_search 100 = .ok (.istore_n 2, 1) := by decide +kernel
theorem d_Mo_search_101 : decode b_Mo_search 101 = .ok (.iconst 1, 1) := by decide +kernel
theorem d_Mo_search_102 : decode b_Mo_search 102 = .ok (.istore_n 3, 1) := by decide +kernel
theorem d_Mo_search_103 : decode b_Mo_search 103 = .ok (.iload_n 3, 1) := by decide +kernel
theorem d_Mo_search_104 : decode b_Mo_search 104 = .ok (.ifCond .eq 91, 3) := by decide +kernel
theorem d_Mo_search_107 : decode b_Mo_search 107 = .ok (.aload_n 0, 1) := by decide +kernel
theorem d_Mo_search_108 : decode b_Mo_search 108 = .ok (.invokevirtual 120, 3) := by decide +kernel
theorem d_Mo_search_111 : decode b_Mo_search 111 = .ok (.istore 4, 2) := by decide +kernel
theorem d_Mo_search_113 : decode b_Mo_search 113 = .ok (.iload 4, 2) := by decide +kernel
theorem d_Mo_search_115 : decode b_Mo_search 115 = .ok (.iload_n 1, 1) := by decide +kernel
theorem d_Mo_search_116 : decode b_Mo_search 116 = .ok (.if_icmp .ge 8, 3) := by decide +kernel
theorem d_Mo_search_119 : decode b_Mo_search 119 = .ok (.ldc 104, 2) := by decide +kernel
theorem d_Mo_search_121 : decode b_Mo_search 121 = .ok (.goto 7, 3) := by decide +kernel
theorem d_Mo_search_124 : decode b_Mo_search 124 = .ok (.aload_n 0, 1) := by decide +kernel
theorem d_Mo_search_125 : decode b_Mo_search 125 = .ok (.invokevirtual 124, 3) := by decide +kernel
theorem d_Mo_search_128 : decode b_Mo_search 128 = .ok (.istore 5, 2) := by decide +kernel
theorem d_Mo_search_130 : decode b_Mo_search 130 = .ok (.iload 5, 2) := by decide +kernel
theorem d_Mo_search_132 : decode b_Mo_search 132 = .ok (.ldc 104, 2) := by decide +kernel
theorem d_Mo_search_134 : decode b_Mo_search 134 = .ok (.if_icmp .ge 53, 3) := by decide +kernel
theorem d_Mo_search_137 : decode b_Mo_search 137 = .ok (.iload 4, 2) := by decide +kernel
theorem d_Mo_search_139 : decode b_Mo_search 139 = .ok (.iload_n 1, 1) := by decide +kernel
theorem d_Mo_search_140 : decode b_Mo_search 140 = .ok (.if_icmp .gt 9, 3) := by decide +kernel
theorem d_Mo_search_143 : decode b_Mo_search 143 = .ok (.iload 5, 2) := by decide +kernel
theorem d_Mo_search_145 : decode b_Mo_search 145 = .ok (.iload_n 2, 1) := by decide +kernel
theorem d_Mo_search_146 : decode b_Mo_search 146 = .ok (.if_icmp .ge 41, 3) := by decide +kernel
theorem d_Mo_search_149 : decode b_Mo_search 149 = .ok (.iload 4, 2) := by decide +kernel
theorem d_Mo_search_151 : decode b_Mo_search 151 = .ok (.istore_n 1, 1) := by decide +kernel
theorem d_Mo_search_152 : decode b_Mo_search 152 = .ok (.iload 5, 2) := by decide +kernel
theorem d_Mo_search_154 : decode b_Mo_search 154 = .ok (.istore_n 2, 1) := by decide +kernel
theorem d_Mo_search_155 : decode b_Mo_search 155 = .ok (.iconst 0, 1) := by decide +kernel
theorem d_Mo_search_156 : decode b_Mo_search 156 = .ok (.istore 6, 2) := by decide +kernel
theorem d_Mo_search_158 : decode b_Mo_search 158 = .ok (.iload 6, 2) := by decide +kernel
theorem d_Mo_search_160 : decode b_Mo_search 160 = .ok (.aload_n 0, 1) := by decide +kernel
theorem d_Mo_search_161 : decode b_Mo_search 161 = .ok (.getfield 68, 3) := by decide +kernel
theorem d_Mo_search_164 : decode b_Mo_search 164 = .ok (.if_icmp .ge 23, 3) := by decide +kernel
theorem d_Mo_search_167 : decode b_Mo_search 167 = .ok (.aload_n 0, 1) := by decide +kernel
theorem d_Mo_search_168 : decode b_Mo_search 168 = .ok (.getfield 49, 3) := by decide +kernel
theorem d_Mo_search_171 : decode b_Mo_search 171 = .ok (.iload 6, 2) := by decide +kernel
theorem d_Mo_search_173 : decode b_Mo_search 173 = .ok (.aload_n 0, 1) := by decide +kernel
theorem d_Mo_search_174 : decode b_Mo_search 174 = .ok (.getfield 58, 3) := by decide +kernel
theorem d_Mo_search_177 : decode b_Mo_search 177 = .ok (.iload 6, 2) := by decide +kernel
theorem d_Mo_search_179 : decode b_Mo_search 179 = .ok (.iaload, 1) := by decide +kernel
theorem d_Mo_search_180 : decode b_Mo_search 180 = .ok (.iastore, 1) := by decide +kernel
theorem d_Mo_search_181 : decode b_Mo_search 181 = .ok (.iinc 6 1, 3) := by decide +kernel
theorem d_Mo_search_184 : decode b_Mo_search 184 = .ok (.goto (-26), 3) := by decide +kernel
theorem d_Mo_search_187 : decode b_Mo_search 187 = .ok (.aload_n 0, 1) := by decide +kernel
theorem d_Mo_search_188 : decode b_Mo_search 188 = .ok (.invokevirtual 127, 3) := by decide +kernel
theorem d_Mo_search_191 : decode b_Mo_search 191 = .ok (.istore_n 3, 1) := by decide +kernel
theorem d_Mo_search_192 : decode b_Mo_search 192 = .ok (.goto (-89), 3) := by decide +kernel
theorem d_Mo_search_195 : decode b_Mo_search 195 = .ok (.aload_n 0, 1) := by decide +kernel
theorem d_Mo_search_196 : decode b_Mo_search 196 = .ok (.iconst 1, 1) := by decide +kernel
theorem d_Mo_search_197 : decode b_Mo_search 197 = .ok (.putfield 87, 3) := by decide +kernel
theorem d_Mo_search_200 : decode b_Mo_search 200 = .ok (.aload_n 0, 1) := by decide +kernel
theorem d_Mo_search_201 : decode b_Mo_search 201 = .ok (.invokevirtual 131, 3) := by decide +kernel
theorem d_Mo_search_204 : decode b_Mo_search 204 = .ok (.return_, 1) := by decide +kernel
def s_Mo_search_130 (P_Mo_asks : MI → ML → Prop) (Q_Mo_asks : MI → ML → MI → ML → Prop) (P_Mo_isBarred : MI → ML → Int32 → Prop) (Q_Mo_isBarred : MI → ML → Int32 → Int32 → MI → ML → Prop) (P_Mo_cost : MI → ML → Int32 → Int32 → Prop) (Q_Mo_cost : MI → ML → Int32 → Int32 → Int32 → MI → ML → Prop) (P_Mo_givesTugs : MI → ML → Prop) (Q_Mo_givesTugs : MI → ML → MI → ML → Prop) (P_Mo_triedMany : MI → ML → Prop) (Q_Mo_triedMany : MI → ML → Int32 → MI → ML → Prop) (P_Mo_triedCost : MI → ML → Prop) (Q_Mo_triedCost : MI → ML → Int32 → MI → ML → Prop) (P_Mo_goesOn : MI → ML → Prop) (Q_Mo_goesOn : MI → ML → Int32 → MI → ML → Prop) (σ : MI) (τ : ML) (x1 : Int32) (x2 : Int32) (x4 : Int32) (x5 : Int32) (K6 : Int32 → MI → ML → Prop) (K16 : Int32 → Int32 → MI → ML → Prop) (K75 : Int32 → MI → ML → Prop) (K103 : Int32 → Int32 → Int32 → MI → ML → Prop) (K158 : Int32 → Int32 → Int32 → MI → ML → Prop) (R : MI → ML → Prop) : Prop :=
  (1000000000 ≤ x5 →
  (P_Mo_goesOn σ τ  ∧ ∀ (r188 : Int32) (s188 : MI) (t188 : ML), Q_Mo_goesOn σ τ  r188 s188 t188 → (K103 x1 x2 r188 s188 t188))) ∧
  (¬ 1000000000 ≤ x5 →
  ((x1 < x4 →
    (K158 x4 x5 0 σ τ)) ∧
    (¬ x1 < x4 →
    ((x2 ≤ x5 →
      (P_Mo_goesOn σ τ  ∧ ∀ (r188 : Int32) (s188 : MI) (t188 : ML), Q_Mo_goesOn σ τ  r188 s188 t188 → (K103 x1 x2 r188 s188 t188))) ∧
      (¬ x2 ≤ x5 →
      (K158 x4 x5 0 σ τ))))))
def s_Mo_search_0 (P_Mo_asks : MI → ML → Prop) (Q_Mo_asks : MI → ML → MI → ML → Prop) (P_Mo_isBarred : MI → ML → Int32 → Prop) (Q_Mo_isBarred : MI → ML → Int32 → Int32 → MI → ML → Prop) (P_Mo_cost : MI → ML → Int32 → Int32 → Prop) (Q_Mo_cost : MI → ML → Int32 → Int32 → Int32 → MI → ML → Prop) (P_Mo_givesTugs : MI → ML → Prop) (Q_Mo_givesTugs : MI → ML → MI → ML → Prop) (P_Mo_triedMany : MI → ML → Prop) (Q_Mo_triedMany : MI → ML → Int32 → MI → ML → Prop) (P_Mo_triedCost : MI → ML → Prop) (Q_Mo_triedCost : MI → ML → Int32 → MI → ML → Prop) (P_Mo_goesOn : MI → ML → Prop) (Q_Mo_goesOn : MI → ML → Int32 → MI → ML → Prop) (σ : MI) (τ : ML) (K6 : Int32 → MI → ML → Prop) (K16 : Int32 → Int32 → MI → ML → Prop) (K75 : Int32 → MI → ML → Prop) (K103 : Int32 → Int32 → Int32 → MI → ML → Prop) (K158 : Int32 → Int32 → Int32 → MI → ML → Prop) (R : MI → ML → Prop) : Prop :=
  P_Mo_asks σ τ  ∧ ∀ (s1 : MI) (t1 : ML), Q_Mo_asks σ τ  s1 t1 → (K6 0 s1 t1)
def s_Mo_search_6 (P_Mo_asks : MI → ML → Prop) (Q_Mo_asks : MI → ML → MI → ML → Prop) (P_Mo_isBarred : MI → ML → Int32 → Prop) (Q_Mo_isBarred : MI → ML → Int32 → Int32 → MI → ML → Prop) (P_Mo_cost : MI → ML → Int32 → Int32 → Prop) (Q_Mo_cost : MI → ML → Int32 → Int32 → Int32 → MI → ML → Prop) (P_Mo_givesTugs : MI → ML → Prop) (Q_Mo_givesTugs : MI → ML → MI → ML → Prop) (P_Mo_triedMany : MI → ML → Prop) (Q_Mo_triedMany : MI → ML → Int32 → MI → ML → Prop) (P_Mo_triedCost : MI → ML → Prop) (Q_Mo_triedCost : MI → ML → Int32 → MI → ML → Prop) (P_Mo_goesOn : MI → ML → Prop) (Q_Mo_goesOn : MI → ML → Int32 → MI → ML → Prop) (σ : MI) (τ : ML) (x1 : Int32) (K6 : Int32 → MI → ML → Prop) (K16 : Int32 → Int32 → MI → ML → Prop) (K75 : Int32 → MI → ML → Prop) (K103 : Int32 → Int32 → Int32 → MI → ML → Prop) (K158 : Int32 → Int32 → Int32 → MI → ML → Prop) (R : MI → ML → Prop) : Prop :=
  ((σ 29 1) ≤ x1 →
  (K75 0 σ τ)) ∧
  (¬ (σ 29 1) ≤ x1 →
  (K16 x1 0 σ τ))
def s_Mo_search_16 (P_Mo_asks : MI → ML → Prop) (Q_Mo_asks : MI → ML → MI → ML → Prop) (P_Mo_isBarred : MI → ML → Int32 → Prop) (Q_Mo_isBarred : MI → ML → Int32 → Int32 → MI → ML → Prop) (P_Mo_cost : MI → ML → Int32 → Int32 → Prop) (Q_Mo_cost : MI → ML → Int32 → Int32 → Int32 → MI → ML → Prop) (P_Mo_givesTugs : MI → ML → Prop) (Q_Mo_givesTugs : MI → ML → MI → ML → Prop) (P_Mo_triedMany : MI → ML → Prop) (Q_Mo_triedMany : MI → ML → Int32 → MI → ML → Prop) (P_Mo_triedCost : MI → ML → Prop) (Q_Mo_triedCost : MI → ML → Int32 → MI → ML → Prop) (P_Mo_goesOn : MI → ML → Prop) (Q_Mo_goesOn : MI → ML → Int32 → MI → ML → Prop) (σ : MI) (τ : ML) (x1 : Int32) (x2 : Int32) (K6 : Int32 → MI → ML → Prop) (K16 : Int32 → Int32 → MI → ML → Prop) (K75 : Int32 → MI → ML → Prop) (K103 : Int32 → Int32 → Int32 → MI → ML → Prop) (K158 : Int32 → Int32 → Int32 → MI → ML → Prop) (R : MI → ML → Prop) : Prop :=
  ((1 <<< ((σ 29 10) &&& 31)) ≤ x2 →
  (∀ y67 : Int32, y67 = x1 + 1 → (K6 y67 σ τ))) ∧
  (¬ (1 <<< ((σ 29 10) &&& 31)) ≤ x2 →
  (P_Mo_isBarred σ τ x1 ∧ ∀ (r39 : Int32) (s39 : MI) (t39 : ML), Q_Mo_isBarred σ τ x1 r39 s39 t39 → ((r39 = 0 →
    (P_Mo_cost s39 t39 x1 x2 ∧ ∀ (r57 : Int32) (s57 : MI) (t57 : ML), Q_Mo_cost s39 t39 x1 x2 r57 s57 t57 → (vp_in ((128 * x1) + x2) 512 ∧ (∀ s60 : MI, s60 = st2 s57 45 (Int32.toNatClampNeg ((128 * x1) + x2)) r57 → (∀ y61 : Int32, y61 = x2 + 1 → (K16 x1 y61 s60 t57)))))) ∧
    (¬ r39 = 0 →
    ((x2 ≤ 0 →
      (P_Mo_cost s39 t39 x1 x2 ∧ ∀ (r57 : Int32) (s57 : MI) (t57 : ML), Q_Mo_cost s39 t39 x1 x2 r57 s57 t57 → (vp_in ((128 * x1) + x2) 512 ∧ (∀ s60 : MI, s60 = st2 s57 45 (Int32.toNatClampNeg ((128 * x1) + x2)) r57 → (∀ y61 : Int32, y61 = x2 + 1 → (K16 x1 y61 s60 t57)))))) ∧
      (¬ x2 ≤ 0 →
      (vp_in ((128 * x1) + x2) 512 ∧ (∀ s60 : MI, s60 = st2 s39 45 (Int32.toNatClampNeg ((128 * x1) + x2)) 1000000000 → (∀ y61 : Int32, y61 = x2 + 1 → (K16 x1 y61 s60 t39))))))))))
def s_Mo_search_75 (P_Mo_asks : MI → ML → Prop) (Q_Mo_asks : MI → ML → MI → ML → Prop) (P_Mo_isBarred : MI → ML → Int32 → Prop) (Q_Mo_isBarred : MI → ML → Int32 → Int32 → MI → ML → Prop) (P_Mo_cost : MI → ML → Int32 → Int32 → Prop) (Q_Mo_cost : MI → ML → Int32 → Int32 → Int32 → MI → ML → Prop) (P_Mo_givesTugs : MI → ML → Prop) (Q_Mo_givesTugs : MI → ML → MI → ML → Prop) (P_Mo_triedMany : MI → ML → Prop) (Q_Mo_triedMany : MI → ML → Int32 → MI → ML → Prop) (P_Mo_triedCost : MI → ML → Prop) (Q_Mo_triedCost : MI → ML → Int32 → MI → ML → Prop) (P_Mo_goesOn : MI → ML → Prop) (Q_Mo_goesOn : MI → ML → Int32 → MI → ML → Prop) (σ : MI) (τ : ML) (x1 : Int32) (K6 : Int32 → MI → ML → Prop) (K16 : Int32 → Int32 → MI → ML → Prop) (K75 : Int32 → MI → ML → Prop) (K103 : Int32 → Int32 → Int32 → MI → ML → Prop) (K158 : Int32 → Int32 → Int32 → MI → ML → Prop) (R : MI → ML → Prop) : Prop :=
  ((σ 29 10) ≤ x1 →
  (∀ y97 : Int32, y97 = (-1) → (K103 y97 1000000000 1 σ τ))) ∧
  (¬ (σ 29 10) ≤ x1 →
  (vp_in x1 7 ∧ (∀ s89 : MI, s89 = st2 σ 46 (Int32.toNatClampNeg x1) 0 → (∀ y90 : Int32, y90 = x1 + 1 → (K75 y90 s89 τ)))))
def s_Mo_search_103 (P_Mo_asks : MI → ML → Prop) (Q_Mo_asks : MI → ML → MI → ML → Prop) (P_Mo_isBarred : MI → ML → Int32 → Prop) (Q_Mo_isBarred : MI → ML → Int32 → Int32 → MI → ML → Prop) (P_Mo_cost : MI → ML → Int32 → Int32 → Prop) (Q_Mo_cost : MI → ML → Int32 → Int32 → Int32 → MI → ML → Prop) (P_Mo_givesTugs : MI → ML → Prop) (Q_Mo_givesTugs : MI → ML → MI → ML → Prop) (P_Mo_triedMany : MI → ML → Prop) (Q_Mo_triedMany : MI → ML → Int32 → MI → ML → Prop) (P_Mo_triedCost : MI → ML → Prop) (Q_Mo_triedCost : MI → ML → Int32 → MI → ML → Prop) (P_Mo_goesOn : MI → ML → Prop) (Q_Mo_goesOn : MI → ML → Int32 → MI → ML → Prop) (σ : MI) (τ : ML) (x1 : Int32) (x2 : Int32) (x3 : Int32) (K6 : Int32 → MI → ML → Prop) (K16 : Int32 → Int32 → MI → ML → Prop) (K75 : Int32 → MI → ML → Prop) (K103 : Int32 → Int32 → Int32 → MI → ML → Prop) (K158 : Int32 → Int32 → Int32 → MI → ML → Prop) (R : MI → ML → Prop) : Prop :=
  (x3 = 0 →
  (∀ s197 : MI, s197 = st2 σ 29 18 1 → (P_Mo_givesTugs s197 τ  ∧ ∀ (s201 : MI) (t201 : ML), Q_Mo_givesTugs s197 τ  s201 t201 → (R s201 t201)))) ∧
  (¬ x3 = 0 →
  (P_Mo_triedMany σ τ  ∧ ∀ (r108 : Int32) (s108 : MI) (t108 : ML), Q_Mo_triedMany σ τ  r108 s108 t108 → ((x1 ≤ r108 →
    (P_Mo_triedCost s108 t108  ∧ ∀ (r125 : Int32) (s125 : MI) (t125 : ML), Q_Mo_triedCost s108 t108  r125 s125 t125 → (s_Mo_search_130 P_Mo_asks Q_Mo_asks P_Mo_isBarred Q_Mo_isBarred P_Mo_cost Q_Mo_cost P_Mo_givesTugs Q_Mo_givesTugs P_Mo_triedMany Q_Mo_triedMany P_Mo_triedCost Q_Mo_triedCost P_Mo_goesOn Q_Mo_goesOn s125 t125 x1 x2 r108 r125 K6 K16 K75 K103 K158 R))) ∧
    (¬ x1 ≤ r108 →
    (s_Mo_search_130 P_Mo_asks Q_Mo_asks P_Mo_isBarred Q_Mo_isBarred P_Mo_cost Q_Mo_cost P_Mo_givesTugs Q_Mo_givesTugs P_Mo_triedMany Q_Mo_triedMany P_Mo_triedCost Q_Mo_triedCost P_Mo_goesOn Q_Mo_goesOn s108 t108 x1 x2 r108 1000000000 K6 K16 K75 K103 K158 R)))))
def s_Mo_search_158 (P_Mo_asks : MI → ML → Prop) (Q_Mo_asks : MI → ML → MI → ML → Prop) (P_Mo_isBarred : MI → ML → Int32 → Prop) (Q_Mo_isBarred : MI → ML → Int32 → Int32 → MI → ML → Prop) (P_Mo_cost : MI → ML → Int32 → Int32 → Prop) (Q_Mo_cost : MI → ML → Int32 → Int32 → Int32 → MI → ML → Prop) (P_Mo_givesTugs : MI → ML → Prop) (Q_Mo_givesTugs : MI → ML → MI → ML → Prop) (P_Mo_triedMany : MI → ML → Prop) (Q_Mo_triedMany : MI → ML → Int32 → MI → ML → Prop) (P_Mo_triedCost : MI → ML → Prop) (Q_Mo_triedCost : MI → ML → Int32 → MI → ML → Prop) (P_Mo_goesOn : MI → ML → Prop) (Q_Mo_goesOn : MI → ML → Int32 → MI → ML → Prop) (σ : MI) (τ : ML) (x1 : Int32) (x2 : Int32) (x6 : Int32) (K6 : Int32 → MI → ML → Prop) (K16 : Int32 → Int32 → MI → ML → Prop) (K75 : Int32 → MI → ML → Prop) (K103 : Int32 → Int32 → Int32 → MI → ML → Prop) (K158 : Int32 → Int32 → Int32 → MI → ML → Prop) (R : MI → ML → Prop) : Prop :=
  ((σ 29 10) ≤ x6 →
  (P_Mo_goesOn σ τ  ∧ ∀ (r188 : Int32) (s188 : MI) (t188 : ML), Q_Mo_goesOn σ τ  r188 s188 t188 → (K103 x1 x2 r188 s188 t188))) ∧
  (¬ (σ 29 10) ≤ x6 →
  (vp_in x6 7 ∧ (vp_in x6 7 ∧ (∀ s180 : MI, s180 = st2 σ 43 (Int32.toNatClampNeg x6) (σ 46 (Int32.toNatClampNeg x6)) → (∀ y181 : Int32, y181 = x6 + 1 → (K158 x1 x2 y181 s180 τ))))))
set_option maxHeartbeats 4000000 in
set_option maxRecDepth 100000 in
theorem k_Mo_search (l : Launch) (D : va_G) (ad : Nat → Nat) (ci cl : ClassId)
    (pre : MI → ML → Prop) (post : MI → ML → MI → ML → Prop) (P_Mo_asks : MI → ML → Prop) (Q_Mo_asks : MI → ML → MI → ML → Prop) (P_Mo_isBarred : MI → ML → Int32 → Prop) (Q_Mo_isBarred : MI → ML → Int32 → Int32 → MI → ML → Prop) (P_Mo_cost : MI → ML → Int32 → Int32 → Prop) (Q_Mo_cost : MI → ML → Int32 → Int32 → Int32 → MI → ML → Prop) (P_Mo_givesTugs : MI → ML → Prop) (Q_Mo_givesTugs : MI → ML → MI → ML → Prop) (P_Mo_triedMany : MI → ML → Prop) (Q_Mo_triedMany : MI → ML → Int32 → MI → ML → Prop) (P_Mo_triedCost : MI → ML → Prop) (Q_Mo_triedCost : MI → ML → Int32 → MI → ML → Prop) (P_Mo_goesOn : MI → ML → Prop) (Q_Mo_goesOn : MI → ML → Int32 → MI → ML → Prop)
    (h_Mo_asks : ∀ (sz : Nat) (σ : MI) (τ : ML), P_Mo_asks σ τ → gMv l D (xw ad ci cl) (xt ci cl) (xa ad) y_Mo_asks w_Mo_asks rm_Mo_asks [.ref (ad 29)] sz σ τ (Q_Mo_asks σ τ))
    (h_Mo_isBarred : ∀ (sz : Nat) (σ : MI) (τ : ML) (b0 : Int32), P_Mo_isBarred σ τ b0 → gMi l D (xw ad ci cl) (xt ci cl) (xa ad) y_Mo_isBarred w_Mo_isBarred rm_Mo_isBarred [.ref (ad 29), .int b0] sz σ τ (Q_Mo_isBarred σ τ b0))
    (h_Mo_cost : ∀ (sz : Nat) (σ : MI) (τ : ML) (b0 : Int32) (b1 : Int32), P_Mo_cost σ τ b0 b1 → gMi l D (xw ad ci cl) (xt ci cl) (xa ad) y_Mo_cost w_Mo_cost rm_Mo_cost [.ref (ad 29), .int b0, .int b1] sz σ τ (Q_Mo_cost σ τ b0 b1))
    (h_Mo_givesTugs : ∀ (sz : Nat) (σ : MI) (τ : ML), P_Mo_givesTugs σ τ → gMv l D (xw ad ci cl) (xt ci cl) (xa ad) y_Mo_givesTugs w_Mo_givesTugs rm_Mo_givesTugs [.ref (ad 29)] sz σ τ (Q_Mo_givesTugs σ τ))
    (h_Mo_triedMany : ∀ (sz : Nat) (σ : MI) (τ : ML), P_Mo_triedMany σ τ → gMi l D (xw ad ci cl) (xt ci cl) (xa ad) y_Mo_triedMany w_Mo_triedMany rm_Mo_triedMany [.ref (ad 29)] sz σ τ (Q_Mo_triedMany σ τ))
    (h_Mo_triedCost : ∀ (sz : Nat) (σ : MI) (τ : ML), P_Mo_triedCost σ τ → gMi l D (xw ad ci cl) (xt ci cl) (xa ad) y_Mo_triedCost w_Mo_triedCost rm_Mo_triedCost [.ref (ad 29)] sz σ τ (Q_Mo_triedCost σ τ))
    (h_Mo_goesOn : ∀ (sz : Nat) (σ : MI) (τ : ML), P_Mo_goesOn σ τ → gMi l D (xw ad ci cl) (xt ci cl) (xa ad) y_Mo_goesOn w_Mo_goesOn rm_Mo_goesOn [.ref (ad 29)] sz σ τ (Q_Mo_goesOn σ τ))
    (I6 : MI → ML → Int32 → MI → ML → Prop) (m6 : MI → ML → Int32 → MI → ML → Nat)
    (I16 : MI → ML → Int32 → Int32 → MI → ML → Prop) (m16 : MI → ML → Int32 → Int32 → MI → ML → Nat)
    (I75 : MI → ML → Int32 → MI → ML → Prop) (m75 : MI → ML → Int32 → MI → ML → Nat)
    (I103 : MI → ML → Int32 → Int32 → Int32 → MI → ML → Prop) (m103 : MI → ML → Int32 → Int32 → Int32 → MI → ML → Nat)
    (I158 : MI → ML → Int32 → Int32 → Int32 → MI → ML → Prop) (m158 : MI → ML → Int32 → Int32 → Int32 → MI → ML → Nat)
    (v0 : ∀ (σ0 : MI) (τ0 : ML), pre σ0 τ0 → s_Mo_search_0 P_Mo_asks Q_Mo_asks P_Mo_isBarred Q_Mo_isBarred P_Mo_cost Q_Mo_cost P_Mo_givesTugs Q_Mo_givesTugs P_Mo_triedMany Q_Mo_triedMany P_Mo_triedCost Q_Mo_triedCost P_Mo_goesOn Q_Mo_goesOn σ0 τ0 (fun z0 σ9 τ9 => I6 σ0 τ0 z0 σ9 τ9) (fun z0 z1 σ9 τ9 => I16 σ0 τ0 z0 z1 σ9 τ9) (fun z0 σ9 τ9 => I75 σ0 τ0 z0 σ9 τ9) (fun z0 z1 z2 σ9 τ9 => I103 σ0 τ0 z0 z1 z2 σ9 τ9) (fun z0 z1 z2 σ9 τ9 => I158 σ0 τ0 z0 z1 z2 σ9 τ9) (post σ0 τ0))
    (v6 : ∀ (σ0 : MI) (τ0 : ML) (x1 : Int32) (σ : MI) (τ : ML), I6 σ0 τ0 x1 σ τ → s_Mo_search_6 P_Mo_asks Q_Mo_asks P_Mo_isBarred Q_Mo_isBarred P_Mo_cost Q_Mo_cost P_Mo_givesTugs Q_Mo_givesTugs P_Mo_triedMany Q_Mo_triedMany P_Mo_triedCost Q_Mo_triedCost P_Mo_goesOn Q_Mo_goesOn σ τ x1 (fun z0 σ9 τ9 => I6 σ0 τ0 z0 σ9 τ9 ∧ m6 σ0 τ0 z0 σ9 τ9 < m6 σ0 τ0 x1 σ τ) (fun z0 z1 σ9 τ9 => I16 σ0 τ0 z0 z1 σ9 τ9 ∧ m16 σ0 τ0 z0 z1 σ9 τ9 < m6 σ0 τ0 x1 σ τ) (fun z0 σ9 τ9 => I75 σ0 τ0 z0 σ9 τ9 ∧ m75 σ0 τ0 z0 σ9 τ9 < m6 σ0 τ0 x1 σ τ) (fun z0 z1 z2 σ9 τ9 => I103 σ0 τ0 z0 z1 z2 σ9 τ9 ∧ m103 σ0 τ0 z0 z1 z2 σ9 τ9 < m6 σ0 τ0 x1 σ τ) (fun z0 z1 z2 σ9 τ9 => I158 σ0 τ0 z0 z1 z2 σ9 τ9 ∧ m158 σ0 τ0 z0 z1 z2 σ9 τ9 < m6 σ0 τ0 x1 σ τ) (post σ0 τ0))
    (v16 : ∀ (σ0 : MI) (τ0 : ML) (x1 : Int32) (x2 : Int32) (σ : MI) (τ : ML), I16 σ0 τ0 x1 x2 σ τ → s_Mo_search_16 P_Mo_asks Q_Mo_asks P_Mo_isBarred Q_Mo_isBarred P_Mo_cost Q_Mo_cost P_Mo_givesTugs Q_Mo_givesTugs P_Mo_triedMany Q_Mo_triedMany P_Mo_triedCost Q_Mo_triedCost P_Mo_goesOn Q_Mo_goesOn σ τ x1 x2 (fun z0 σ9 τ9 => I6 σ0 τ0 z0 σ9 τ9 ∧ m6 σ0 τ0 z0 σ9 τ9 < m16 σ0 τ0 x1 x2 σ τ) (fun z0 z1 σ9 τ9 => I16 σ0 τ0 z0 z1 σ9 τ9 ∧ m16 σ0 τ0 z0 z1 σ9 τ9 < m16 σ0 τ0 x1 x2 σ τ) (fun z0 σ9 τ9 => I75 σ0 τ0 z0 σ9 τ9 ∧ m75 σ0 τ0 z0 σ9 τ9 < m16 σ0 τ0 x1 x2 σ τ) (fun z0 z1 z2 σ9 τ9 => I103 σ0 τ0 z0 z1 z2 σ9 τ9 ∧ m103 σ0 τ0 z0 z1 z2 σ9 τ9 < m16 σ0 τ0 x1 x2 σ τ) (fun z0 z1 z2 σ9 τ9 => I158 σ0 τ0 z0 z1 z2 σ9 τ9 ∧ m158 σ0 τ0 z0 z1 z2 σ9 τ9 < m16 σ0 τ0 x1 x2 σ τ) (post σ0 τ0))
    (v75 : ∀ (σ0 : MI) (τ0 : ML) (x1 : Int32) (σ : MI) (τ : ML), I75 σ0 τ0 x1 σ τ → s_Mo_search_75 P_Mo_asks Q_Mo_asks P_Mo_isBarred Q_Mo_isBarred P_Mo_cost Q_Mo_cost P_Mo_givesTugs Q_Mo_givesTugs P_Mo_triedMany Q_Mo_triedMany P_Mo_triedCost Q_Mo_triedCost P_Mo_goesOn Q_Mo_goesOn σ τ x1 (fun z0 σ9 τ9 => I6 σ0 τ0 z0 σ9 τ9 ∧ m6 σ0 τ0 z0 σ9 τ9 < m75 σ0 τ0 x1 σ τ) (fun z0 z1 σ9 τ9 => I16 σ0 τ0 z0 z1 σ9 τ9 ∧ m16 σ0 τ0 z0 z1 σ9 τ9 < m75 σ0 τ0 x1 σ τ) (fun z0 σ9 τ9 => I75 σ0 τ0 z0 σ9 τ9 ∧ m75 σ0 τ0 z0 σ9 τ9 < m75 σ0 τ0 x1 σ τ) (fun z0 z1 z2 σ9 τ9 => I103 σ0 τ0 z0 z1 z2 σ9 τ9 ∧ m103 σ0 τ0 z0 z1 z2 σ9 τ9 < m75 σ0 τ0 x1 σ τ) (fun z0 z1 z2 σ9 τ9 => I158 σ0 τ0 z0 z1 z2 σ9 τ9 ∧ m158 σ0 τ0 z0 z1 z2 σ9 τ9 < m75 σ0 τ0 x1 σ τ) (post σ0 τ0))
    (v103 : ∀ (σ0 : MI) (τ0 : ML) (x1 : Int32) (x2 : Int32) (x3 : Int32) (σ : MI) (τ : ML), I103 σ0 τ0 x1 x2 x3 σ τ → s_Mo_search_103 P_Mo_asks Q_Mo_asks P_Mo_isBarred Q_Mo_isBarred P_Mo_cost Q_Mo_cost P_Mo_givesTugs Q_Mo_givesTugs P_Mo_triedMany Q_Mo_triedMany P_Mo_triedCost Q_Mo_triedCost P_Mo_goesOn Q_Mo_goesOn σ τ x1 x2 x3 (fun z0 σ9 τ9 => I6 σ0 τ0 z0 σ9 τ9 ∧ m6 σ0 τ0 z0 σ9 τ9 < m103 σ0 τ0 x1 x2 x3 σ τ) (fun z0 z1 σ9 τ9 => I16 σ0 τ0 z0 z1 σ9 τ9 ∧ m16 σ0 τ0 z0 z1 σ9 τ9 < m103 σ0 τ0 x1 x2 x3 σ τ) (fun z0 σ9 τ9 => I75 σ0 τ0 z0 σ9 τ9 ∧ m75 σ0 τ0 z0 σ9 τ9 < m103 σ0 τ0 x1 x2 x3 σ τ) (fun z0 z1 z2 σ9 τ9 => I103 σ0 τ0 z0 z1 z2 σ9 τ9 ∧ m103 σ0 τ0 z0 z1 z2 σ9 τ9 < m103 σ0 τ0 x1 x2 x3 σ τ) (fun z0 z1 z2 σ9 τ9 => I158 σ0 τ0 z0 z1 z2 σ9 τ9 ∧ m158 σ0 τ0 z0 z1 z2 σ9 τ9 < m103 σ0 τ0 x1 x2 x3 σ τ) (post σ0 τ0))
    (v158 : ∀ (σ0 : MI) (τ0 : ML) (x1 : Int32) (x2 : Int32) (x6 : Int32) (σ : MI) (τ : ML), I158 σ0 τ0 x1 x2 x6 σ τ → s_Mo_search_158 P_Mo_asks Q_Mo_asks P_Mo_isBarred Q_Mo_isBarred P_Mo_cost Q_Mo_cost P_Mo_givesTugs Q_Mo_givesTugs P_Mo_triedMany Q_Mo_triedMany P_Mo_triedCost Q_Mo_triedCost P_Mo_goesOn Q_Mo_goesOn σ τ x1 x2 x6 (fun z0 σ9 τ9 => I6 σ0 τ0 z0 σ9 τ9 ∧ m6 σ0 τ0 z0 σ9 τ9 < m158 σ0 τ0 x1 x2 x6 σ τ) (fun z0 z1 σ9 τ9 => I16 σ0 τ0 z0 z1 σ9 τ9 ∧ m16 σ0 τ0 z0 z1 σ9 τ9 < m158 σ0 τ0 x1 x2 x6 σ τ) (fun z0 σ9 τ9 => I75 σ0 τ0 z0 σ9 τ9 ∧ m75 σ0 τ0 z0 σ9 τ9 < m158 σ0 τ0 x1 x2 x6 σ τ) (fun z0 z1 z2 σ9 τ9 => I103 σ0 τ0 z0 z1 z2 σ9 τ9 ∧ m103 σ0 τ0 z0 z1 z2 σ9 τ9 < m158 σ0 τ0 x1 x2 x6 σ τ) (fun z0 z1 z2 σ9 τ9 => I158 σ0 τ0 z0 z1 z2 σ9 τ9 ∧ m158 σ0 τ0 z0 z1 z2 σ9 τ9 < m158 σ0 τ0 x1 x2 x6 σ τ) (post σ0 τ0)) :
    ∀ (sz : Nat) (σ0 : MI) (τ0 : ML), pre σ0 τ0 → gMv l D (xw ad ci cl) (xt ci cl) (xa ad) y_Mo_search w_Mo_search rm_Mo_search [.ref (ad 29)] sz σ0 τ0 (post σ0 τ0) := by
  intro sz σ0 τ0 hpre
  refine gk_ofWv (cc := b_Mo_search) (maxL := 7) (ret := none) (by decide) rfl xa_ok (Nat.le_of_ble_eq_true rfl) ?_
  intro p e s m below meth c ls hx hb hr hlocks hml hown hts hK hP hD hS hl
  have hl : lv_has ls 7 [(0, .ref (ad 29))] := hl
  have hown : s.vm.findClass R_Mo = some m.cls := hown
  have hL : ∀ n : Nat, (∀ (x1 : Int32) (σ : MI) (τ : ML) (H : Heap) (locs : List Loc) (ls : Array Slot), m6 σ0 τ0 x1 σ τ < n → I6 σ0 τ0 x1 σ τ → va_P D classes ((xw ad ci cl) σ τ) H → va_D (gA (xa ad) s.heap.size) ((xw ad ci cl) σ τ) → va_S (gA (xa ad) s.heap.size) s.heap H locs → lv_has ls 7 [(0, .ref (ad 29)), (1, .int x1)] → W p l e rm_Mo_search s m [.ref (ad 29)].toArray below meth c H locs 0 0 (gQv D (xw ad ci cl) (xt ci cl) (xa ad) below [.ref (ad 29)] s (post σ0 τ0)) (F0 m 6 ls [])) ∧
      (∀ (x1 : Int32) (x2 : Int32) (σ : MI) (τ : ML) (H : Heap) (locs : List Loc) (ls : Array Slot), m16 σ0 τ0 x1 x2 σ τ < n → I16 σ0 τ0 x1 x2 σ τ → va_P D classes ((xw ad ci cl) σ τ) H → va_D (gA (xa ad) s.heap.size) ((xw ad ci cl) σ τ) → va_S (gA (xa ad) s.heap.size) s.heap H locs → lv_has ls 7 [(0, .ref (ad 29)), (1, .int x1), (2, .int x2)] → W p l e rm_Mo_search s m [.ref (ad 29)].toArray below meth c H locs 0 0 (gQv D (xw ad ci cl) (xt ci cl) (xa ad) below [.ref (ad 29)] s (post σ0 τ0)) (F0 m 16 ls [])) ∧
      (∀ (x1 : Int32) (σ : MI) (τ : ML) (H : Heap) (locs : List Loc) (ls : Array Slot), m75 σ0 τ0 x1 σ τ < n → I75 σ0 τ0 x1 σ τ → va_P D classes ((xw ad ci cl) σ τ) H → va_D (gA (xa ad) s.heap.size) ((xw ad ci cl) σ τ) → va_S (gA (xa ad) s.heap.size) s.heap H locs → lv_has ls 7 [(0, .ref (ad 29)), (1, .int x1)] → W p l e rm_Mo_search s m [.ref (ad 29)].toArray below meth c H locs 0 0 (gQv D (xw ad ci cl) (xt ci cl) (xa ad) below [.ref (ad 29)] s (post σ0 τ0)) (F0 m 75 ls [])) ∧
      (∀ (x1 : Int32) (x2 : Int32) (x3 : Int32) (σ : MI) (τ : ML) (H : Heap) (locs : List Loc) (ls : Array Slot), m103 σ0 τ0 x1 x2 x3 σ τ < n → I103 σ0 τ0 x1 x2 x3 σ τ → va_P D classes ((xw ad ci cl) σ τ) H → va_D (gA (xa ad) s.heap.size) ((xw ad ci cl) σ τ) → va_S (gA (xa ad) s.heap.size) s.heap H locs → lv_has ls 7 [(0, .ref (ad 29)), (1, .int x1), (2, .int x2), (3, .int x3)] → W p l e rm_Mo_search s m [.ref (ad 29)].toArray below meth c H locs 0 0 (gQv D (xw ad ci cl) (xt ci cl) (xa ad) below [.ref (ad 29)] s (post σ0 τ0)) (F0 m 103 ls [])) ∧
      (∀ (x1 : Int32) (x2 : Int32) (x6 : Int32) (σ : MI) (τ : ML) (H : Heap) (locs : List Loc) (ls : Array Slot), m158 σ0 τ0 x1 x2 x6 σ τ < n → I158 σ0 τ0 x1 x2 x6 σ τ → va_P D classes ((xw ad ci cl) σ τ) H → va_D (gA (xa ad) s.heap.size) ((xw ad ci cl) σ τ) → va_S (gA (xa ad) s.heap.size) s.heap H locs → lv_has ls 7 [(0, .ref (ad 29)), (1, .int x1), (2, .int x2), (6, .int x6)] → W p l e rm_Mo_search s m [.ref (ad 29)].toArray below meth c H locs 0 0 (gQv D (xw ad ci cl) (xt ci cl) (xa ad) below [.ref (ad 29)] s (post σ0 τ0)) (F0 m 158 ls [])) := by
    intro n
    induction n with
    | zero => exact ⟨fun _ _ _ _ _ _ hn => absurd hn (Nat.not_lt_zero _), fun _ _ _ _ _ _ _ hn => absurd hn (Nat.not_lt_zero _), fun _ _ _ _ _ _ hn => absurd hn (Nat.not_lt_zero _), fun _ _ _ _ _ _ _ _ hn => absurd hn (Nat.not_lt_zero _), fun _ _ _ _ _ _ _ _ hn => absurd hn (Nat.not_lt_zero _)⟩
    | succ n ih =>
      refine ⟨?_, ?_, ?_, ?_, ?_⟩
      · intro x1 σ τ H locs ls hn hI hP hD hS hl
        have hv := v6 σ0 τ0 x1 σ τ hI
        unfold s_Mo_search_6 at hv
        refine lv_iload_n hx hb d_Mo_search_6 rfl (lv_at hl 1 rfl) ?_
        refine lv_aload_n hx hb d_Mo_search_7 rfl (lv_at hl 0 rfl) ?_
        refine va_get (D := D) (ci := 7) (v := .int (σ 29 1)) (C := R_Mo) (T := F_Mo) (N := 24) hx hb hts iw_Mo hown hK hP 29 rfl rfl 1 (by decide) (hts _ t_w248) (fun _ h9 => h9) rfl d_Mo_search_8 ?_
        refine lv_icmp_ge (tgt := 73) hx hb d_Mo_search_11 (by decide) (fun hc => ?_) (fun hc => ?_)
        · replace hv := hv.1 hc
          refine lv_iconst (v := 0) hx hb d_Mo_search_73 (by decide) ?_
          refine lv_istore_n (lv' := [(1, .int 0), (0, .ref (ad 29))]) hx hb d_Mo_search_74 rfl hl (by decide) rfl (fun ls hl => ?_)
          obtain ⟨hI, hm⟩ := hv
          exact ih.2.2.1 0 σ τ _ _ _ (Nat.lt_of_lt_of_le hm (Nat.le_of_lt_succ hn)) hI hP hD hS (lv_sub hl [1, 0] rfl)
        · replace hv := hv.2 hc
          refine lv_iconst (v := 0) hx hb d_Mo_search_14 (by decide) ?_
          refine lv_istore_n (lv' := [(2, .int 0), (0, .ref (ad 29)), (1, .int x1)]) hx hb d_Mo_search_15 rfl hl (by decide) rfl (fun ls hl => ?_)
          obtain ⟨hI, hm⟩ := hv
          exact ih.2.1 x1 0 σ τ _ _ _ (Nat.lt_of_lt_of_le hm (Nat.le_of_lt_succ hn)) hI hP hD hS (lv_sub hl [1, 2, 0] rfl)
      · intro x1 x2 σ τ H locs ls hn hI hP hD hS hl
        have hv := v16 σ0 τ0 x1 x2 σ τ hI
        unfold s_Mo_search_16 at hv
        refine lv_iload_n hx hb d_Mo_search_16 rfl (lv_at hl 2 rfl) ?_
        refine lv_iconst (v := 1) hx hb d_Mo_search_17 (by decide) ?_
        refine lv_aload_n hx hb d_Mo_search_18 rfl (lv_at hl 0 rfl) ?_
        refine va_get (D := D) (ci := 7) (v := .int (σ 29 10)) (C := R_Mo) (T := F_Mo) (N := 24) hx hb hts iw_Mo hown hK hP 29 rfl rfl 10 (by decide) (hts _ t_w249) (fun _ h9 => h9) rfl d_Mo_search_19 ?_
        refine lv_ishl hx hb d_Mo_search_22 ?_
        refine lv_icmp_ge (tgt := 67) hx hb d_Mo_search_23 (by decide) (fun hc => ?_) (fun hc => ?_)
        · replace hv := hv.1 hc
          obtain ⟨y67, ey67⟩ : ∃ z : Int32, z = x1 + 1 := ⟨_, rfl⟩
          replace hv := hv y67 ey67
          refine lv_iinc (v := y67) (lv' := [(1, .int y67), (0, .ref (ad 29)), (2, .int x2)]) hx hb d_Mo_search_67 hl (k := 1) rfl (by rw [ey67]; rfl) (by decide) rfl (fun ls hl => ?_)
          refine lv_goto (tgt := 6) hx hb d_Mo_search_70 (by decide) ?_
          obtain ⟨hI, hm⟩ := hv
          exact ih.1 y67 σ τ _ _ _ (Nat.lt_of_lt_of_le hm (Nat.le_of_lt_succ hn)) hI hP hD hS (lv_sub hl [1, 0] rfl)
        · replace hv := hv.2 hc
          refine lv_aload_n hx hb d_Mo_search_26 rfl (lv_at hl 0 rfl) ?_
          refine va_get (D := D) (ci := 7) (v := .ref (ad 45)) (C := R_Mo) (T := F_Mo) (N := 24) hx hb hts iw_Mo hown hK hP 29 rfl rfl 22 (by decide) (hts _ t_w291) (fun _ h9 => h9) rfl d_Mo_search_27 ?_
          refine lv_sipush (v := 128) hx hb d_Mo_search_30 (by decide) ?_
          refine lv_iload_n hx hb d_Mo_search_33 rfl (lv_at hl 1 rfl) ?_
          refine lv_imul hx hb d_Mo_search_34 ?_
          refine lv_iload_n hx hb d_Mo_search_35 rfl (lv_at hl 2 rfl) ?_
          refine lv_iadd hx hb d_Mo_search_36 ?_
          refine lv_aload_n hx hb d_Mo_search_37 rfl (lv_at hl 0 rfl) ?_
          refine lv_iload_n hx hb d_Mo_search_38 rfl (lv_at hl 1 rfl) ?_
          obtain ⟨hg, hv⟩ := hv
          refine gk_callVi (As := [.int x1]) (rest := [.int ((128 * x1) + x2), .ref (ad 45)]) (b := ad 29) ⟨hx, hb, hml, hown, hts⟩ (h_Mo_isBarred _ σ τ x1 hg) (gk_cwV 1 hts t_w324 rfl rfl rfl (hts _ t_w321) (hts _ t_w322) (hts _ t_w323) (hts _ t_w252) (by decide +kernel) ⟨Nat.le_of_ble_eq_true rfl, Nat.le_of_ble_eq_true rfl⟩) hK hP hD hS (va_recv hK hP (ci := 7) (q0 := 29) rfl rfl) rfl hl.1 rfl (lv_room (Nat.le_of_ble_eq_true rfl)) d_Mo_search_39 ⟨Nat.zero_le _, Nat.zero_le _⟩ ?_
          intro r39 s39 t39 H locs hw hP hD hS
          replace hv := hv r39 s39 t39 hw
          refine lv_if_eq (tgt := 54) hx hb d_Mo_search_42 (by decide) (fun hc => ?_) (fun hc => ?_)
          · replace hv := hv.1 hc
            refine lv_aload_n hx hb d_Mo_search_54 rfl (lv_at hl 0 rfl) ?_
            refine lv_iload_n hx hb d_Mo_search_55 rfl (lv_at hl 1 rfl) ?_
            refine lv_iload_n hx hb d_Mo_search_56 rfl (lv_at hl 2 rfl) ?_
            obtain ⟨hg, hv⟩ := hv
            refine gk_callVi (As := [.int x1, .int x2]) (rest := [.int ((128 * x1) + x2), .ref (ad 45)]) (b := ad 29) ⟨hx, hb, hml, hown, hts⟩ (h_Mo_cost _ s39 t39 x1 x2 hg) (gk_cwV 2 hts t_w328 rfl rfl rfl (hts _ t_w325) (hts _ t_w326) (hts _ t_w327) (hts _ t_w252) (by decide +kernel) ⟨Nat.le_of_ble_eq_true rfl, Nat.le_of_ble_eq_true rfl⟩) hK hP hD hS (va_recv hK hP (ci := 7) (q0 := 29) rfl rfl) rfl hl.1 rfl (lv_room (Nat.le_of_ble_eq_true rfl)) d_Mo_search_57 ⟨Nat.zero_le _, Nat.zero_le _⟩ ?_
            intro r57 s57 t57 H locs hw hP hD hS
            replace hv := hv r57 s57 t57 hw
            obtain ⟨hi, hv⟩ := hv
            refine va_iast hx hb hK hP hD hS 45 0 rfl rfl hi d_Mo_search_60 (fun H locs hP hD hS => ?_)
            rw [xa_45] at hP hD
            obtain ⟨s60, es60⟩ : ∃ z : MI, z = st2 s57 45 (Int32.toNatClampNeg ((128 * x1) + x2)) r57 := ⟨_, rfl⟩
            rw [← es60] at hP hD
            replace hv := hv s60 es60
            obtain ⟨y61, ey61⟩ : ∃ z : Int32, z = x2 + 1 := ⟨_, rfl⟩
            replace hv := hv y61 ey61
            refine lv_iinc (v := y61) (lv' := [(2, .int y61), (0, .ref (ad 29)), (1, .int x1)]) hx hb d_Mo_search_61 hl (k := 2) rfl (by rw [ey61]; rfl) (by decide) rfl (fun ls hl => ?_)
            refine lv_goto (tgt := 16) hx hb d_Mo_search_64 (by decide) ?_
            obtain ⟨hI, hm⟩ := hv
            exact ih.2.1 x1 y61 s60 t57 _ _ _ (Nat.lt_of_lt_of_le hm (Nat.le_of_lt_succ hn)) hI hP hD hS (lv_sub hl [1, 2, 0] rfl)
          · replace hv := hv.2 hc
            refine lv_iload_n hx hb d_Mo_search_45 rfl (lv_at hl 2 rfl) ?_
            refine lv_if_le (tgt := 54) hx hb d_Mo_search_46 (by decide) (fun hc => ?_) (fun hc => ?_)
            · replace hv := hv.1 hc
              refine lv_aload_n hx hb d_Mo_search_54 rfl (lv_at hl 0 rfl) ?_
              refine lv_iload_n hx hb d_Mo_search_55 rfl (lv_at hl 1 rfl) ?_
              refine lv_iload_n hx hb d_Mo_search_56 rfl (lv_at hl 2 rfl) ?_
              obtain ⟨hg, hv⟩ := hv
              refine gk_callVi (As := [.int x1, .int x2]) (rest := [.int ((128 * x1) + x2), .ref (ad 45)]) (b := ad 29) ⟨hx, hb, hml, hown, hts⟩ (h_Mo_cost _ s39 t39 x1 x2 hg) (gk_cwV 2 hts t_w328 rfl rfl rfl (hts _ t_w325) (hts _ t_w326) (hts _ t_w327) (hts _ t_w252) (by decide +kernel) ⟨Nat.le_of_ble_eq_true rfl, Nat.le_of_ble_eq_true rfl⟩) hK hP hD hS (va_recv hK hP (ci := 7) (q0 := 29) rfl rfl) rfl hl.1 rfl (lv_room (Nat.le_of_ble_eq_true rfl)) d_Mo_search_57 ⟨Nat.zero_le _, Nat.zero_le _⟩ ?_
              intro r57 s57 t57 H locs hw hP hD hS
              replace hv := hv r57 s57 t57 hw
              obtain ⟨hi, hv⟩ := hv
              refine va_iast hx hb hK hP hD hS 45 0 rfl rfl hi d_Mo_search_60 (fun H locs hP hD hS => ?_)
              rw [xa_45] at hP hD
              obtain ⟨s60, es60⟩ : ∃ z : MI, z = st2 s57 45 (Int32.toNatClampNeg ((128 * x1) + x2)) r57 := ⟨_, rfl⟩
              rw [← es60] at hP hD
              replace hv := hv s60 es60
              obtain ⟨y61, ey61⟩ : ∃ z : Int32, z = x2 + 1 := ⟨_, rfl⟩
              replace hv := hv y61 ey61
              refine lv_iinc (v := y61) (lv' := [(2, .int y61), (0, .ref (ad 29)), (1, .int x1)]) hx hb d_Mo_search_61 hl (k := 2) rfl (by rw [ey61]; rfl) (by decide) rfl (fun ls hl => ?_)
              refine lv_goto (tgt := 16) hx hb d_Mo_search_64 (by decide) ?_
              obtain ⟨hI, hm⟩ := hv
              exact ih.2.1 x1 y61 s60 t57 _ _ _ (Nat.lt_of_lt_of_le hm (Nat.le_of_lt_succ hn)) hI hP hD hS (lv_sub hl [1, 2, 0] rfl)
            · replace hv := hv.2 hc
              refine lv_ldc (v := 1000000000) hx hb hown (hts _ t_w287) d_Mo_search_49 ?_
              refine lv_goto (tgt := 60) hx hb d_Mo_search_51 (by decide) ?_
              obtain ⟨hi, hv⟩ := hv
              refine va_iast hx hb hK hP hD hS 45 0 rfl rfl hi d_Mo_search_60 (fun H locs hP hD hS => ?_)
              rw [xa_45] at hP hD
              obtain ⟨s60, es60⟩ : ∃ z : MI, z = st2 s39 45 (Int32.toNatClampNeg ((128 * x1) + x2)) 1000000000 := ⟨_, rfl⟩
              rw [← es60] at hP hD
              replace hv := hv s60 es60
              obtain ⟨y61, ey61⟩ : ∃ z : Int32, z = x2 + 1 := ⟨_, rfl⟩
              replace hv := hv y61 ey61
              refine lv_iinc (v := y61) (lv' := [(2, .int y61), (0, .ref (ad 29)), (1, .int x1)]) hx hb d_Mo_search_61 hl (k := 2) rfl (by rw [ey61]; rfl) (by decide) rfl (fun ls hl => ?_)
              refine lv_goto (tgt := 16) hx hb d_Mo_search_64 (by decide) ?_
              obtain ⟨hI, hm⟩ := hv
              exact ih.2.1 x1 y61 s60 t39 _ _ _ (Nat.lt_of_lt_of_le hm (Nat.le_of_lt_succ hn)) hI hP hD hS (lv_sub hl [1, 2, 0] rfl)
      · intro x1 σ τ H locs ls hn hI hP hD hS hl
        have hv := v75 σ0 τ0 x1 σ τ hI
        unfold s_Mo_search_75 at hv
        refine lv_iload_n hx hb d_Mo_search_75 rfl (lv_at hl 1 rfl) ?_
        refine lv_aload_n hx hb d_Mo_search_76 rfl (lv_at hl 0 rfl) ?_
        refine va_get (D := D) (ci := 7) (v := .int (σ 29 10)) (C := R_Mo) (T := F_Mo) (N := 24) hx hb hts iw_Mo hown hK hP 29 rfl rfl 10 (by decide) (hts _ t_w249) (fun _ h9 => h9) rfl d_Mo_search_77 ?_
        refine lv_icmp_ge (tgt := 96) hx hb d_Mo_search_80 (by decide) (fun hc => ?_) (fun hc => ?_)
        · replace hv := hv.1 hc
          refine lv_iconst (v := (-1)) hx hb d_Mo_search_96 (by decide) ?_
          refine lv_topi (fun y97 ey97 => ?_)
          replace hv := hv y97 ey97
          refine lv_istore_n (lv' := [(1, .int y97), (0, .ref (ad 29))]) hx hb d_Mo_search_97 rfl hl (by decide) rfl (fun ls hl => ?_)
          refine lv_ldc (v := 1000000000) hx hb hown (hts _ t_w287) d_Mo_search_98 ?_
          refine lv_istore_n (lv' := [(2, .int 1000000000), (1, .int y97), (0, .ref (ad 29))]) hx hb d_Mo_search_100 rfl hl (by decide) rfl (fun ls hl => ?_)
          refine lv_iconst (v := 1) hx hb d_Mo_search_101 (by decide) ?_
          refine lv_istore_n (lv' := [(3, .int 1), (2, .int 1000000000), (1, .int y97), (0, .ref (ad 29))]) hx hb d_Mo_search_102 rfl hl (by decide) rfl (fun ls hl => ?_)
          obtain ⟨hI, hm⟩ := hv
          exact ih.2.2.2.1 y97 1000000000 1 σ τ _ _ _ (Nat.lt_of_lt_of_le hm (Nat.le_of_lt_succ hn)) hI hP hD hS (lv_sub hl [3, 2, 1, 0] rfl)
        · replace hv := hv.2 hc
          refine lv_aload_n hx hb d_Mo_search_83 rfl (lv_at hl 0 rfl) ?_
          refine va_get (D := D) (ci := 7) (v := .ref (ad 46)) (C := R_Mo) (T := F_Mo) (N := 24) hx hb hts iw_Mo hown hK hP 29 rfl rfl 23 (by decide) (hts _ t_w290) (fun _ h9 => h9) rfl d_Mo_search_84 ?_
          refine lv_iload_n hx hb d_Mo_search_87 rfl (lv_at hl 1 rfl) ?_
          refine lv_iconst (v := 0) hx hb d_Mo_search_88 (by decide) ?_
          obtain ⟨hi, hv⟩ := hv
          refine va_iast hx hb hK hP hD hS 46 0 rfl rfl hi d_Mo_search_89 (fun H locs hP hD hS => ?_)
          rw [xa_46] at hP hD
          obtain ⟨s89, es89⟩ : ∃ z : MI, z = st2 σ 46 (Int32.toNatClampNeg x1) 0 := ⟨_, rfl⟩
          rw [← es89] at hP hD
          replace hv := hv s89 es89
          obtain ⟨y90, ey90⟩ : ∃ z : Int32, z = x1 + 1 := ⟨_, rfl⟩
          replace hv := hv y90 ey90
          refine lv_iinc (v := y90) (lv' := [(1, .int y90), (0, .ref (ad 29))]) hx hb d_Mo_search_90 hl (k := 1) rfl (by rw [ey90]; rfl) (by decide) rfl (fun ls hl => ?_)
          refine lv_goto (tgt := 75) hx hb d_Mo_search_93 (by decide) ?_
          obtain ⟨hI, hm⟩ := hv
          exact ih.2.2.1 y90 s89 τ _ _ _ (Nat.lt_of_lt_of_le hm (Nat.le_of_lt_succ hn)) hI hP hD hS (lv_sub hl [1, 0] rfl)
      · intro x1 x2 x3 σ τ H locs ls hn hI hP hD hS hl
        have hv := v103 σ0 τ0 x1 x2 x3 σ τ hI
        unfold s_Mo_search_103 at hv
        have j130 : ∀ (w1 : Int32) (w2 : Int32) (w4 : Int32) (w5 : Int32) (σ1 : MI) (τ1 : ML) (H : Heap) (locs : List Loc) (ls : Array Slot), s_Mo_search_130 P_Mo_asks Q_Mo_asks P_Mo_isBarred Q_Mo_isBarred P_Mo_cost Q_Mo_cost P_Mo_givesTugs Q_Mo_givesTugs P_Mo_triedMany Q_Mo_triedMany P_Mo_triedCost Q_Mo_triedCost P_Mo_goesOn Q_Mo_goesOn σ1 τ1 w1 w2 w4 w5 (fun z0 σ9 τ9 => I6 σ0 τ0 z0 σ9 τ9 ∧ m6 σ0 τ0 z0 σ9 τ9 < m103 σ0 τ0 x1 x2 x3 σ τ) (fun z0 z1 σ9 τ9 => I16 σ0 τ0 z0 z1 σ9 τ9 ∧ m16 σ0 τ0 z0 z1 σ9 τ9 < m103 σ0 τ0 x1 x2 x3 σ τ) (fun z0 σ9 τ9 => I75 σ0 τ0 z0 σ9 τ9 ∧ m75 σ0 τ0 z0 σ9 τ9 < m103 σ0 τ0 x1 x2 x3 σ τ) (fun z0 z1 z2 σ9 τ9 => I103 σ0 τ0 z0 z1 z2 σ9 τ9 ∧ m103 σ0 τ0 z0 z1 z2 σ9 τ9 < m103 σ0 τ0 x1 x2 x3 σ τ) (fun z0 z1 z2 σ9 τ9 => I158 σ0 τ0 z0 z1 z2 σ9 τ9 ∧ m158 σ0 τ0 z0 z1 z2 σ9 τ9 < m103 σ0 τ0 x1 x2 x3 σ τ) (post σ0 τ0) → va_P D classes ((xw ad ci cl) σ1 τ1) H → va_D (gA (xa ad) s.heap.size) ((xw ad ci cl) σ1 τ1) → va_S (gA (xa ad) s.heap.size) s.heap H locs → lv_has ls 7 [(0, .ref (ad 29)), (1, .int w1), (2, .int w2), (4, .int w4), (5, .int w5)] → W p l e rm_Mo_search s m [.ref (ad 29)].toArray below meth c H locs 0 0 (gQv D (xw ad ci cl) (xt ci cl) (xa ad) below [.ref (ad 29)] s (post σ0 τ0)) (F0 m 130 ls []) := by
          intro w1 w2 w4 w5 σ1 τ1 H locs ls hv hP hD hS hl
          unfold s_Mo_search_130 at hv
          refine lv_iload hx hb d_Mo_search_130 (lv_at hl 4 rfl) ?_
          refine lv_ldc (v := 1000000000) hx hb hown (hts _ t_w287) d_Mo_search_132 ?_
          refine lv_icmp_ge (tgt := 187) hx hb d_Mo_search_134 (by decide) (fun hc => ?_) (fun hc => ?_)
          · replace hv := hv.1 hc
            refine lv_aload_n hx hb d_Mo_search_187 rfl (lv_at hl 0 rfl) ?_
            obtain ⟨hg, hv⟩ := hv
            refine gk_callVi (As := []) (rest := []) (b := ad 29) ⟨hx, hb, hml, hown, hts⟩ (h_Mo_goesOn _ σ1 τ1  hg) (gk_cwV 0 hts t_w344 rfl rfl rfl (hts _ t_w341) (hts _ t_w342) (hts _ t_w343) (hts _ t_w252) (by decide +kernel) ⟨Nat.le_of_ble_eq_true rfl, Nat.le_of_ble_eq_true rfl⟩) hK hP hD hS (va_recv hK hP (ci := 7) (q0 := 29) rfl rfl) rfl hl.1 rfl (lv_room (Nat.le_of_ble_eq_true rfl)) d_Mo_search_188 ⟨Nat.zero_le _, Nat.zero_le _⟩ ?_
            intro r188 s188 t188 H locs hw hP hD hS
            replace hv := hv r188 s188 t188 hw
            refine lv_istore_n (lv' := [(3, .int r188), (0, .ref (ad 29)), (1, .int w1), (2, .int w2), (4, .int w4), (5, .int w5)]) hx hb d_Mo_search_191 rfl hl (by decide) rfl (fun ls hl => ?_)
            refine lv_goto (tgt := 103) hx hb d_Mo_search_192 (by decide) ?_
            obtain ⟨hI, hm⟩ := hv
            exact ih.2.2.2.1 w1 w2 r188 s188 t188 _ _ _ (Nat.lt_of_lt_of_le hm (Nat.le_of_lt_succ hn)) hI hP hD hS (lv_sub hl [1, 2, 3, 0] rfl)
          · replace hv := hv.2 hc
            refine lv_iload hx hb d_Mo_search_137 (lv_at hl 3 rfl) ?_
            refine lv_iload_n hx hb d_Mo_search_139 rfl (lv_at hl 1 rfl) ?_
            refine lv_icmp_gt (tgt := 149) hx hb d_Mo_search_140 (by decide) (fun hc => ?_) (fun hc => ?_)
            · replace hv := hv.1 hc
              refine lv_iload hx hb d_Mo_search_149 (lv_at hl 3 rfl) ?_
              refine lv_istore_n (lv' := [(1, .int w4), (0, .ref (ad 29)), (2, .int w2), (4, .int w4), (5, .int w5)]) hx hb d_Mo_search_151 rfl hl (by decide) rfl (fun ls hl => ?_)
              refine lv_iload hx hb d_Mo_search_152 (lv_at hl 4 rfl) ?_
              refine lv_istore_n (lv' := [(2, .int w5), (1, .int w4), (0, .ref (ad 29)), (4, .int w4), (5, .int w5)]) hx hb d_Mo_search_154 rfl hl (by decide) rfl (fun ls hl => ?_)
              refine lv_iconst (v := 0) hx hb d_Mo_search_155 (by decide) ?_
              refine lv_istore (lv' := [(6, .int 0), (2, .int w5), (1, .int w4), (0, .ref (ad 29)), (4, .int w4), (5, .int w5)]) hx hb d_Mo_search_156 hl (by decide) rfl (fun ls hl => ?_)
              obtain ⟨hI, hm⟩ := hv
              exact ih.2.2.2.2 w4 w5 0 σ1 τ1 _ _ _ (Nat.lt_of_lt_of_le hm (Nat.le_of_lt_succ hn)) hI hP hD hS (lv_sub hl [3, 2, 1, 0] rfl)
            · replace hv := hv.2 hc
              refine lv_iload hx hb d_Mo_search_143 (lv_at hl 4 rfl) ?_
              refine lv_iload_n hx hb d_Mo_search_145 rfl (lv_at hl 2 rfl) ?_
              refine lv_icmp_ge (tgt := 187) hx hb d_Mo_search_146 (by decide) (fun hc => ?_) (fun hc => ?_)
              · replace hv := hv.1 hc
                refine lv_aload_n hx hb d_Mo_search_187 rfl (lv_at hl 0 rfl) ?_
                obtain ⟨hg, hv⟩ := hv
                refine gk_callVi (As := []) (rest := []) (b := ad 29) ⟨hx, hb, hml, hown, hts⟩ (h_Mo_goesOn _ σ1 τ1  hg) (gk_cwV 0 hts t_w344 rfl rfl rfl (hts _ t_w341) (hts _ t_w342) (hts _ t_w343) (hts _ t_w252) (by decide +kernel) ⟨Nat.le_of_ble_eq_true rfl, Nat.le_of_ble_eq_true rfl⟩) hK hP hD hS (va_recv hK hP (ci := 7) (q0 := 29) rfl rfl) rfl hl.1 rfl (lv_room (Nat.le_of_ble_eq_true rfl)) d_Mo_search_188 ⟨Nat.zero_le _, Nat.zero_le _⟩ ?_
                intro r188 s188 t188 H locs hw hP hD hS
                replace hv := hv r188 s188 t188 hw
                refine lv_istore_n (lv' := [(3, .int r188), (0, .ref (ad 29)), (1, .int w1), (2, .int w2), (4, .int w4), (5, .int w5)]) hx hb d_Mo_search_191 rfl hl (by decide) rfl (fun ls hl => ?_)
                refine lv_goto (tgt := 103) hx hb d_Mo_search_192 (by decide) ?_
                obtain ⟨hI, hm⟩ := hv
                exact ih.2.2.2.1 w1 w2 r188 s188 t188 _ _ _ (Nat.lt_of_lt_of_le hm (Nat.le_of_lt_succ hn)) hI hP hD hS (lv_sub hl [1, 2, 3, 0] rfl)
              · replace hv := hv.2 hc
                refine lv_iload hx hb d_Mo_search_149 (lv_at hl 3 rfl) ?_
                refine lv_istore_n (lv' := [(1, .int w4), (0, .ref (ad 29)), (2, .int w2), (4, .int w4), (5, .int w5)]) hx hb d_Mo_search_151 rfl hl (by decide) rfl (fun ls hl => ?_)
                refine lv_iload hx hb d_Mo_search_152 (lv_at hl 4 rfl) ?_
                refine lv_istore_n (lv' := [(2, .int w5), (1, .int w4), (0, .ref (ad 29)), (4, .int w4), (5, .int w5)]) hx hb d_Mo_search_154 rfl hl (by decide) rfl (fun ls hl => ?_)
                refine lv_iconst (v := 0) hx hb d_Mo_search_155 (by decide) ?_
                refine lv_istore (lv' := [(6, .int 0), (2, .int w5), (1, .int w4), (0, .ref (ad 29)), (4, .int w4), (5, .int w5)]) hx hb d_Mo_search_156 hl (by decide) rfl (fun ls hl => ?_)
                obtain ⟨hI, hm⟩ := hv
                exact ih.2.2.2.2 w4 w5 0 σ1 τ1 _ _ _ (Nat.lt_of_lt_of_le hm (Nat.le_of_lt_succ hn)) hI hP hD hS (lv_sub hl [3, 2, 1, 0] rfl)
        refine lv_iload_n hx hb d_Mo_search_103 rfl (lv_at hl 3 rfl) ?_
        refine lv_if_eq (tgt := 195) hx hb d_Mo_search_104 (by decide) (fun hc => ?_) (fun hc => ?_)
        · replace hv := hv.1 hc
          refine lv_aload_n hx hb d_Mo_search_195 rfl (lv_at hl 0 rfl) ?_
          refine lv_iconst (v := 1) hx hb d_Mo_search_196 (by decide) ?_
          refine va_put (D := D) (ci := 7) (v := .int 1) (ty := .boolean) (fs := [.int (σ 29 0), .int (σ 29 1), .ref (ad 30), .ref (ad 31), .ref (ad 32), .ref (ad 33), .ref (ad 34), .ref (ad 35), .int (σ 29 8), .ref (ad 36), .int (σ 29 10), .ref (ad 37), .ref (ad 38), .ref (ad 39), .ref (ad 40), .ref (ad 41), .ref (ad 42), .int (σ 29 17), .int (σ 29 18), .ref (ad 43), .ref (ad 44), .int (σ 29 21), .ref (ad 45), .ref (ad 46)]) (C := R_Mo) (T := F_Mo) (N := 24) hx hb hts iw_Mo ty_Mo ty_Mo_ok nn_Mo hown hK hP hD hS 29 rfl rfl 18 (by decide) (hts _ t_w268) (fun _ h9 => h9) rfl (by decide +kernel) rfl rfl (Nat.le_of_ble_eq_true rfl) d_Mo_search_197 (fun H locs hP hD hS => ?_)
          rw [xf_29_18] at hP hD
          obtain ⟨s197, es197⟩ : ∃ z : MI, z = st2 σ 29 18 1 := ⟨_, rfl⟩
          rw [← es197] at hP hD
          replace hv := hv s197 es197
          refine lv_aload_n hx hb d_Mo_search_200 rfl (lv_at hl 0 rfl) ?_
          obtain ⟨hg, hv⟩ := hv
          refine gk_callVv (As := []) (rest := []) (b := ad 29) ⟨hx, hb, hml, hown, hts⟩ (h_Mo_givesTugs _ s197 τ  hg) (gk_cwV 0 hts t_w332 rfl rfl rfl (hts _ t_w329) (hts _ t_w330) (hts _ t_w331) (hts _ t_w252) (by decide +kernel) ⟨Nat.le_of_ble_eq_true rfl, Nat.le_of_ble_eq_true rfl⟩) hK hP hD hS (va_recv hK hP (ci := 7) (q0 := 29) rfl rfl) rfl hl.1 rfl (lv_room (Nat.le_of_ble_eq_true rfl)) d_Mo_search_201 ⟨Nat.zero_le _, Nat.zero_le _⟩ ?_
          intro s201 t201 H locs hw hP hD hS
          replace hv := hv s201 t201 hw
          exact gk_vret hx hb hr hlocks hK hP hD hS hv d_Mo_search_204
        · replace hv := hv.2 hc
          refine lv_aload_n hx hb d_Mo_search_107 rfl (lv_at hl 0 rfl) ?_
          obtain ⟨hg, hv⟩ := hv
          refine gk_callVi (As := []) (rest := []) (b := ad 29) ⟨hx, hb, hml, hown, hts⟩ (h_Mo_triedMany _ σ τ  hg) (gk_cwV 0 hts t_w336 rfl rfl rfl (hts _ t_w333) (hts _ t_w334) (hts _ t_w335) (hts _ t_w252) (by decide +kernel) ⟨Nat.le_of_ble_eq_true rfl, Nat.le_of_ble_eq_true rfl⟩) hK hP hD hS (va_recv hK hP (ci := 7) (q0 := 29) rfl rfl) rfl hl.1 rfl (lv_room (Nat.le_of_ble_eq_true rfl)) d_Mo_search_108 ⟨Nat.zero_le _, Nat.zero_le _⟩ ?_
          intro r108 s108 t108 H locs hw hP hD hS
          replace hv := hv r108 s108 t108 hw
          refine lv_istore (lv' := [(4, .int r108), (0, .ref (ad 29)), (1, .int x1), (2, .int x2), (3, .int x3)]) hx hb d_Mo_search_111 hl (by decide) rfl (fun ls hl => ?_)
          refine lv_iload hx hb d_Mo_search_113 (lv_at hl 0 rfl) ?_
          refine lv_iload_n hx hb d_Mo_search_115 rfl (lv_at hl 2 rfl) ?_
          refine lv_icmp_ge (tgt := 124) hx hb d_Mo_search_116 (by decide) (fun hc => ?_) (fun hc => ?_)
          · replace hv := hv.1 hc
            refine lv_aload_n hx hb d_Mo_search_124 rfl (lv_at hl 1 rfl) ?_
            obtain ⟨hg, hv⟩ := hv
            refine gk_callVi (As := []) (rest := []) (b := ad 29) ⟨hx, hb, hml, hown, hts⟩ (h_Mo_triedCost _ s108 t108  hg) (gk_cwV 0 hts t_w340 rfl rfl rfl (hts _ t_w337) (hts _ t_w338) (hts _ t_w339) (hts _ t_w252) (by decide +kernel) ⟨Nat.le_of_ble_eq_true rfl, Nat.le_of_ble_eq_true rfl⟩) hK hP hD hS (va_recv hK hP (ci := 7) (q0 := 29) rfl rfl) rfl hl.1 rfl (lv_room (Nat.le_of_ble_eq_true rfl)) d_Mo_search_125 ⟨Nat.zero_le _, Nat.zero_le _⟩ ?_
            intro r125 s125 t125 H locs hw hP hD hS
            replace hv := hv r125 s125 t125 hw
            refine lv_istore (lv' := [(5, .int r125), (4, .int r108), (0, .ref (ad 29)), (1, .int x1), (2, .int x2), (3, .int x3)]) hx hb d_Mo_search_128 hl (by decide) rfl (fun ls hl => ?_)
            exact j130 x1 x2 r108 r125 s125 t125 _ _ _ hv hP hD hS (lv_sub hl [2, 3, 4, 1, 0] rfl)
          · replace hv := hv.2 hc
            refine lv_ldc (v := 1000000000) hx hb hown (hts _ t_w287) d_Mo_search_119 ?_
            refine lv_goto (tgt := 128) hx hb d_Mo_search_121 (by decide) ?_
            refine lv_istore (lv' := [(5, .int 1000000000), (4, .int r108), (0, .ref (ad 29)), (1, .int x1), (2, .int x2), (3, .int x3)]) hx hb d_Mo_search_128 hl (by decide) rfl (fun ls hl => ?_)
            exact j130 x1 x2 r108 1000000000 s108 t108 _ _ _ hv hP hD hS (lv_sub hl [2, 3, 4, 1, 0] rfl)
      · intro x1 x2 x6 σ τ H locs ls hn hI hP hD hS hl
        have hv := v158 σ0 τ0 x1 x2 x6 σ τ hI
        unfold s_Mo_search_158 at hv
        refine lv_iload hx hb d_Mo_search_158 (lv_at hl 3 rfl) ?_
        refine lv_aload_n hx hb d_Mo_search_160 rfl (lv_at hl 0 rfl) ?_
        refine va_get (D := D) (ci := 7) (v := .int (σ 29 10)) (C := R_Mo) (T := F_Mo) (N := 24) hx hb hts iw_Mo hown hK hP 29 rfl rfl 10 (by decide) (hts _ t_w249) (fun _ h9 => h9) rfl d_Mo_search_161 ?_
        refine lv_icmp_ge (tgt := 187) hx hb d_Mo_search_164 (by decide) (fun hc => ?_) (fun hc => ?_)
        · replace hv := hv.1 hc
          refine lv_aload_n hx hb d_Mo_search_187 rfl (lv_at hl 0 rfl) ?_
          obtain ⟨hg, hv⟩ := hv
          refine gk_callVi (As := []) (rest := []) (b := ad 29) ⟨hx, hb, hml, hown, hts⟩ (h_Mo_goesOn _ σ τ  hg) (gk_cwV 0 hts t_w344 rfl rfl rfl (hts _ t_w341) (hts _ t_w342) (hts _ t_w343) (hts _ t_w252) (by decide +kernel) ⟨Nat.le_of_ble_eq_true rfl, Nat.le_of_ble_eq_true rfl⟩) hK hP hD hS (va_recv hK hP (ci := 7) (q0 := 29) rfl rfl) rfl hl.1 rfl (lv_room (Nat.le_of_ble_eq_true rfl)) d_Mo_search_188 ⟨Nat.zero_le _, Nat.zero_le _⟩ ?_
          intro r188 s188 t188 H locs hw hP hD hS
          replace hv := hv r188 s188 t188 hw
          refine lv_istore_n (lv' := [(3, .int r188), (0, .ref (ad 29)), (1, .int x1), (2, .int x2), (6, .int x6)]) hx hb d_Mo_search_191 rfl hl (by decide) rfl (fun ls hl => ?_)
          refine lv_goto (tgt := 103) hx hb d_Mo_search_192 (by decide) ?_
          obtain ⟨hI, hm⟩ := hv
          exact ih.2.2.2.1 x1 x2 r188 s188 t188 _ _ _ (Nat.lt_of_lt_of_le hm (Nat.le_of_lt_succ hn)) hI hP hD hS (lv_sub hl [1, 2, 3, 0] rfl)
        · replace hv := hv.2 hc
          refine lv_aload_n hx hb d_Mo_search_167 rfl (lv_at hl 0 rfl) ?_
          refine va_get (D := D) (ci := 7) (v := .ref (ad 43)) (C := R_Mo) (T := F_Mo) (N := 24) hx hb hts iw_Mo hown hK hP 29 rfl rfl 19 (by decide) (hts _ t_w312) (fun _ h9 => h9) rfl d_Mo_search_168 ?_
          refine lv_iload hx hb d_Mo_search_171 (lv_at hl 3 rfl) ?_
          refine lv_aload_n hx hb d_Mo_search_173 rfl (lv_at hl 0 rfl) ?_
          refine va_get (D := D) (ci := 7) (v := .ref (ad 46)) (C := R_Mo) (T := F_Mo) (N := 24) hx hb hts iw_Mo hown hK hP 29 rfl rfl 23 (by decide) (hts _ t_w290) (fun _ h9 => h9) rfl d_Mo_search_174 ?_
          refine lv_iload hx hb d_Mo_search_177 (lv_at hl 3 rfl) ?_
          obtain ⟨hi, hv⟩ := hv
          refine va_iald hx hb hK hP 46 0 rfl rfl hi d_Mo_search_179 ?_
          obtain ⟨hi, hv⟩ := hv
          refine va_iast hx hb hK hP hD hS 43 0 rfl rfl hi d_Mo_search_180 (fun H locs hP hD hS => ?_)
          rw [xa_43] at hP hD
          obtain ⟨s180, es180⟩ : ∃ z : MI, z = st2 σ 43 (Int32.toNatClampNeg x6) (σ 46 (Int32.toNatClampNeg x6)) := ⟨_, rfl⟩
          rw [← es180] at hP hD
          replace hv := hv s180 es180
          obtain ⟨y181, ey181⟩ : ∃ z : Int32, z = x6 + 1 := ⟨_, rfl⟩
          replace hv := hv y181 ey181
          refine lv_iinc (v := y181) (lv' := [(6, .int y181), (0, .ref (ad 29)), (1, .int x1), (2, .int x2)]) hx hb d_Mo_search_181 hl (k := 3) rfl (by rw [ey181]; rfl) (by decide) rfl (fun ls hl => ?_)
          refine lv_goto (tgt := 158) hx hb d_Mo_search_184 (by decide) ?_
          obtain ⟨hI, hm⟩ := hv
          exact ih.2.2.2.2 x1 x2 y181 s180 τ _ _ _ (Nat.lt_of_lt_of_le hm (Nat.le_of_lt_succ hn)) hI hP hD hS (lv_sub hl [1, 2, 3, 0] rfl)
  have hv := v0 σ0 τ0 hpre
  unfold s_Mo_search_0 at hv
  refine lv_aload_n hx hb d_Mo_search_0 rfl (lv_at hl 0 rfl) ?_
  obtain ⟨hg, hv⟩ := hv
  refine gk_callVv (As := []) (rest := []) (b := ad 29) ⟨hx, hb, hml, hown, hts⟩ (h_Mo_asks _ σ0 τ0  hg) (gk_cwV 0 hts t_w320 rfl rfl rfl (hts _ t_w317) (hts _ t_w318) (hts _ t_w319) (hts _ t_w252) (by decide +kernel) ⟨Nat.le_of_ble_eq_true rfl, Nat.le_of_ble_eq_true rfl⟩) hK hP hD hS (va_recv hK hP (ci := 7) (q0 := 29) rfl rfl) rfl hl.1 rfl (lv_room (Nat.le_of_ble_eq_true rfl)) d_Mo_search_1 ⟨Nat.zero_le _, Nat.zero_le _⟩ ?_
  intro s1 t1 H locs hw hP hD hS
  replace hv := hv s1 t1 hw
  refine lv_iconst (v := 0) hx hb d_Mo_search_4 (by decide) ?_
  refine lv_istore_n (lv' := [(1, .int 0), (0, .ref (ad 29))]) hx hb d_Mo_search_5 rfl hl (by decide) rfl (fun ls hl => ?_)
  exact (hL _).1 0 s1 t1 _ _ _ (Nat.lt_succ_self _) hv hP hD hS (lv_sub hl [1, 0] rfl)
theorem d_Mo_givenTo_0 : decode b_Mo_givenTo 0 = .ok (.iconst 0, 1) := by decide +kernel
theorem d_Mo_givenTo_1 : decode b_Mo_givenTo 1 = .ok (.istore_n 2, 1) := by decide +kernel
theorem d_Mo_givenTo_2 : decode b_Mo_givenTo 2 = .ok (.iconst 0, 1) := by decide +kernel
theorem d_Mo_givenTo_3 : decode b_Mo_givenTo 3 = .ok (.istore_n 3, 1) := by decide +kernel
theorem d_Mo_givenTo_4 : decode b_Mo_givenTo 4 = .ok (.iload_n 3, 1) := by decide +kernel
theorem d_Mo_givenTo_5 : decode b_Mo_givenTo 5 = .ok (.aload_n 0, 1) := by decide +kernel
theorem d_Mo_givenTo_6 : decode b_Mo_givenTo 6 = .ok (.getfield 68, 3) := by decide +kernel
theorem d_Mo_givenTo_9 : decode b_Mo_givenTo 9 = .ok (.if_icmp .ge 29, 3) := by decide +kernel
theorem d_Mo_givenTo_12 : decode b_Mo_givenTo 12 = .ok (.iload_n 2, 1) := by decide +kernel
theorem d_Mo_givenTo_13 : decode b_Mo_givenTo 13 = .ok (.aload_n 0, 1) := by decide +kernel
theorem d_Mo_givenTo_14 : decode b_Mo_givenTo 14 = .ok (.getfield 49, 3) := by decide +kernel
theorem d_Mo_givenTo_17 : decode b_Mo_givenTo 17 = .ok (.iload_n 3, 1) := by decide +kernel
theorem d_Mo_givenTo_18 : decode b_Mo_givenTo 18 = .ok (.iaload, 1) := by decide +kernel
theorem d_Mo_givenTo_19 : decode b_Mo_givenTo 19 = .ok (.iload_n 1, 1) := by decide +kernel
theorem d_Mo_givenTo_20 : decode b_Mo_givenTo 20 = .ok (.if_icmp .ne 9, 3) := by decide +kernel
theorem d_Mo_givenTo_23 : decode b_Mo_givenTo 23 = .ok (.iconst 1, 1) := by decide +kernel
theorem d_Mo_givenTo_24 : decode b_Mo_givenTo 24 = .ok (.iload_n 3, 1) := by decide +kernel
theorem d_Mo_givenTo_25 : decode b_Mo_givenTo 25 = .ok (.ishl, 1) := by decide +kernel
theorem d_Mo_givenTo_26 : decode b_Mo_givenTo 26 = .ok (.goto 4, 3) := by decide +kernel
theorem d_Mo_givenTo_29 : decode b_Mo_givenTo 29 = .ok (.iconst 0, 1) := by decide +kernel
theorem d_Mo_givenTo_30 : decode b_Mo_givenTo 30 = .ok (.ior, 1) := by decide +kernel
theorem d_Mo_givenTo_31 : decode b_Mo_givenTo 31 = .ok (.istore_n 2, 1) := by decide +kernel
theorem d_Mo_givenTo_32 : decode b_Mo_givenTo 32 = .ok (.iinc 3 1, 3) := by decide +kernel
theorem d_Mo_givenTo_35 : decode b_Mo_givenTo 35 = .ok (.goto (-31), 3) := by decide +kernel
theorem d_Mo_givenTo_38 : decode b_Mo_givenTo 38 = .ok (.iload_n 2, 1) := by decide +kernel
theorem d_Mo_givenTo_39 : decode b_Mo_givenTo 39 = .ok (.ireturn, 1) := by decide +kernel
def s_Mo_givenTo_0 (σ : MI) (τ : ML) (a1 : Int32) (K4 : Int32 → Int32 → Int32 → MI → ML → Prop) (R : Int32 → MI → ML → Prop) : Prop :=
  K4 a1 0 0 σ τ
def s_Mo_givenTo_4 (σ : MI) (τ : ML) (x1 : Int32) (x2 : Int32) (x3 : Int32) (K4 : Int32 → Int32 → Int32 → MI → ML → Prop) (R : Int32 → MI → ML → Prop) : Prop :=
  ((σ 29 10) ≤ x3 →
  (R x2 σ τ)) ∧
  (¬ (σ 29 10) ≤ x3 →
  (vp_in x3 7 ∧ ((¬ (σ 43 (Int32.toNatClampNeg x3)) = x1 →
    (∀ y31 : Int32, y31 = x2 ||| 0 → (∀ y32 : Int32, y32 = x3 + 1 → (K4 x1 y31 y32 σ τ)))) ∧
    ((σ 43 (Int32.toNatClampNeg x3)) = x1 →
    (∀ y31 : Int32, y31 = x2 ||| (1 <<< (x3 &&& 31)) → (∀ y32 : Int32, y32 = x3 + 1 → (K4 x1 y31 y32 σ τ)))))))
set_option maxHeartbeats 4000000 in
set_option maxRecDepth 100000 in
theorem k_Mo_givenTo (l : Launch) (D : va_G) (ad : Nat → Nat) (ci cl : ClassId)
    (pre : MI → ML → Int32 → Prop) (post : MI → ML → Int32 → Int32 → MI → ML → Prop)
    (I4 : MI → ML → Int32 → Int32 → Int32 → Int32 → MI → ML → Prop) (m4 : MI → ML → Int32 → Int32 → Int32 → Int32 → MI → ML → Nat)
    (v0 : ∀ (σ0 : MI) (τ0 : ML) (a1 : Int32), pre σ0 τ0 a1 → s_Mo_givenTo_0 σ0 τ0 a1 (fun z0 z1 z2 σ9 τ9 => I4 σ0 τ0 a1 z0 z1 z2 σ9 τ9) (post σ0 τ0 a1))
    (v4 : ∀ (σ0 : MI) (τ0 : ML) (a1 : Int32) (x1 : Int32) (x2 : Int32) (x3 : Int32) (σ : MI) (τ : ML), I4 σ0 τ0 a1 x1 x2 x3 σ τ → s_Mo_givenTo_4 σ τ x1 x2 x3 (fun z0 z1 z2 σ9 τ9 => I4 σ0 τ0 a1 z0 z1 z2 σ9 τ9 ∧ m4 σ0 τ0 a1 z0 z1 z2 σ9 τ9 < m4 σ0 τ0 a1 x1 x2 x3 σ τ) (post σ0 τ0 a1)) :
    ∀ (sz : Nat) (σ0 : MI) (τ0 : ML) (a1 : Int32), pre σ0 τ0 a1 → gMi l D (xw ad ci cl) (xt ci cl) (xa ad) y_Mo_givenTo w_Mo_givenTo rm_Mo_givenTo [.ref (ad 29), .int a1] sz σ0 τ0 (post σ0 τ0 a1) := by
  intro sz σ0 τ0 a1 hpre
  refine gk_ofWi (cc := b_Mo_givenTo) (maxL := 4) (ret := (some .int)) (by decide) rfl xa_ok (Nat.le_of_ble_eq_true rfl) ?_
  intro p e s m below meth c ls hx hb hr hlocks hml hown hts hK hP hD hS hl
  have hl : lv_has ls 4 [(0, .ref (ad 29)), (1, .int a1)] := hl
  have hown : s.vm.findClass R_Mo = some m.cls := hown
  have hL : ∀ n : Nat, (∀ (x1 : Int32) (x2 : Int32) (x3 : Int32) (σ : MI) (τ : ML) (H : Heap) (locs : List Loc) (ls : Array Slot), m4 σ0 τ0 a1 x1 x2 x3 σ τ < n → I4 σ0 τ0 a1 x1 x2 x3 σ τ → va_P D classes ((xw ad ci cl) σ τ) H → va_D (gA (xa ad) s.heap.size) ((xw ad ci cl) σ τ) → va_S (gA (xa ad) s.heap.size) s.heap H locs → lv_has ls 4 [(0, .ref (ad 29)), (1, .int x1), (2, .int x2), (3, .int x3)] → W p l e rm_Mo_givenTo s m [.ref (ad 29), .int a1].toArray below meth c H locs 0 0 (gQi D (xw ad ci cl) (xt ci cl) (xa ad) below [.ref (ad 29), .int a1] s (post σ0 τ0 a1)) (F0 m 4 ls [])) := by
    intro n
    induction n with
    | zero => exact fun _ _ _ _ _ _ _ _ hn => absurd hn (Nat.not_lt_zero _)
    | succ n ih =>
      · intro x1 x2 x3 σ τ H locs ls hn hI hP hD hS hl
        have hv := v4 σ0 τ0 a1 x1 x2 x3 σ τ hI
        unfold s_Mo_givenTo_4 at hv
        refine lv_iload_n hx hb d_Mo_givenTo_4 rfl (lv_at hl 3 rfl) ?_
        refine lv_aload_n hx hb d_Mo_givenTo_5 rfl (lv_at hl 0 rfl) ?_
        refine va_get (D := D) (ci := 7) (v := .int (σ 29 10)) (C := R_Mo) (T := F_Mo) (N := 24) hx hb hts iw_Mo hown hK hP 29 rfl rfl 10 (by decide) (hts _ t_w249) (fun _ h9 => h9) rfl d_Mo_givenTo_6 ?_
        refine lv_icmp_ge (tgt := 38) hx hb d_Mo_givenTo_9 (by decide) (fun hc => ?_) (fun hc => ?_)
        · replace hv := hv.1 hc
          refine lv_iload_n hx hb d_Mo_givenTo_38 rfl (lv_at hl 2 rfl) ?_
          exact gk_iret hx hb hr hlocks hK hP hD hS hv d_Mo_givenTo_39
        · replace hv := hv.2 hc
          refine lv_iload_n hx hb d_Mo_givenTo_12 rfl (lv_at hl 2 rfl) ?_
          refine lv_aload_n hx hb d_Mo_givenTo_13 rfl (lv_at hl 0 rfl) ?_
          refine va_get (D := D) (ci := 7) (v := .ref (ad 43)) (C := R_Mo) (T := F_Mo) (N := 24) hx hb hts iw_Mo hown hK hP 29 rfl rfl 19 (by decide) (hts _ t_w312) (fun _ h9 => h9) rfl d_Mo_givenTo_14 ?_
          refine lv_iload_n hx hb d_Mo_givenTo_17 rfl (lv_at hl 3 rfl) ?_
          obtain ⟨hi, hv⟩ := hv
          refine va_iald hx hb hK hP 43 0 rfl rfl hi d_Mo_givenTo_18 ?_
          refine lv_iload_n hx hb d_Mo_givenTo_19 rfl (lv_at hl 1 rfl) ?_
          refine lv_icmp_ne (tgt := 29) hx hb d_Mo_givenTo_20 (by decide) (fun hc => ?_) (fun hc => ?_)
          · replace hv := hv.1 hc
            refine lv_iconst (v := 0) hx hb d_Mo_givenTo_29 (by decide) ?_
            refine lv_ior hx hb d_Mo_givenTo_30 ?_
            refine lv_topi (fun y31 ey31 => ?_)
            replace hv := hv y31 ey31
            refine lv_istore_n (lv' := [(2, .int y31), (0, .ref (ad 29)), (1, .int x1), (3, .int x3)]) hx hb d_Mo_givenTo_31 rfl hl (by decide) rfl (fun ls hl => ?_)
            obtain ⟨y32, ey32⟩ : ∃ z : Int32, z = x3 + 1 := ⟨_, rfl⟩
            replace hv := hv y32 ey32
            refine lv_iinc (v := y32) (lv' := [(3, .int y32), (2, .int y31), (0, .ref (ad 29)), (1, .int x1)]) hx hb d_Mo_givenTo_32 hl (k := 3) rfl (by rw [ey32]; rfl) (by decide) rfl (fun ls hl => ?_)
            refine lv_goto (tgt := 4) hx hb d_Mo_givenTo_35 (by decide) ?_
            obtain ⟨hI, hm⟩ := hv
            exact ih x1 y31 y32 σ τ _ _ _ (Nat.lt_of_lt_of_le hm (Nat.le_of_lt_succ hn)) hI hP hD hS (lv_sub hl [2, 3, 1, 0] rfl)
          · replace hv := hv.2 hc
            refine lv_iconst (v := 1) hx hb d_Mo_givenTo_23 (by decide) ?_
            refine lv_iload_n hx hb d_Mo_givenTo_24 rfl (lv_at hl 3 rfl) ?_
            refine lv_ishl hx hb d_Mo_givenTo_25 ?_
            refine lv_goto (tgt := 30) hx hb d_Mo_givenTo_26 (by decide) ?_
            refine lv_ior hx hb d_Mo_givenTo_30 ?_
            refine lv_topi (fun y31 ey31 => ?_)
            replace hv := hv y31 ey31
            refine lv_istore_n (lv' := [(2, .int y31), (0, .ref (ad 29)), (1, .int x1), (3, .int x3)]) hx hb d_Mo_givenTo_31 rfl hl (by decide) rfl (fun ls hl => ?_)
            obtain ⟨y32, ey32⟩ : ∃ z : Int32, z = x3 + 1 := ⟨_, rfl⟩
            replace hv := hv y32 ey32
            refine lv_iinc (v := y32) (lv' := [(3, .int y32), (2, .int y31), (0, .ref (ad 29)), (1, .int x1)]) hx hb d_Mo_givenTo_32 hl (k := 3) rfl (by rw [ey32]; rfl) (by decide) rfl (fun ls hl => ?_)
            refine lv_goto (tgt := 4) hx hb d_Mo_givenTo_35 (by decide) ?_
            obtain ⟨hI, hm⟩ := hv
            exact ih x1 y31 y32 σ τ _ _ _ (Nat.lt_of_lt_of_le hm (Nat.le_of_lt_succ hn)) hI hP hD hS (lv_sub hl [2, 3, 1, 0] rfl)
  have hv := v0 σ0 τ0 a1 hpre
  unfold s_Mo_givenTo_0 at hv
  refine lv_iconst (v := 0) hx hb d_Mo_givenTo_0 (by decide) ?_
  refine lv_istore_n (lv' := [(2, .int 0), (0, .ref (ad 29)), (1, .int a1)]) hx hb d_Mo_givenTo_1 rfl hl (by decide) rfl (fun ls hl => ?_)
  refine lv_iconst (v := 0) hx hb d_Mo_givenTo_2 (by decide) ?_
  refine lv_istore_n (lv' := [(3, .int 0), (2, .int 0), (0, .ref (ad 29)), (1, .int a1)]) hx hb d_Mo_givenTo_3 rfl hl (by decide) rfl (fun ls hl => ?_)
  exact (hL _) a1 0 0 σ0 τ0 _ _ _ (Nat.lt_succ_self _) hv hP hD hS (lv_sub hl [2, 3, 1, 0] rfl)
theorem d_Mo_sum_0 : decode b_Mo_sum 0 = .ok (.iconst 0, 1) := by decide +kernel
theorem d_Mo_sum_1 : decode b_Mo_sum 1 = .ok (.istore_n 1, 1) := by decide +kernel
theorem d_Mo_sum_2 : decode b_Mo_sum 2 = .ok (.iconst 0, 1) := by decide +kernel
theorem d_Mo_sum_3 : decode b_Mo_sum 3 = .ok (.istore_n 2, 1) := by decide +kernel
theorem d_Mo_sum_4 : decode b_Mo_sum 4 = .ok (.iload_n 2, 1) := by decide +kernel
theorem d_Mo_sum_5 : decode b_Mo_sum 5 = .ok (.aload_n 0, 1) := by decide +kernel
theorem d_Mo_sum_6 : decode b_Mo_sum 6 = .ok (.getfield 65, 3) := by decide +kernel
theorem d_Mo_sum_9 : decode b_Mo_sum 9 = .ok (.if_icmp .ge 22, 3) := by decide +kernel
theorem d_Mo_sum_12 : decode b_Mo_sum 12 = .ok (.iload_n 1, 1) := by decide +kernel
theorem d_Mo_sum_13 : decode b_Mo_sum 13 = .ok (.aload_n 0, 1) := by decide +kernel
theorem d_Mo_sum_14 : decode b_Mo_sum 14 = .ok (.iload_n 2, 1) := by decide +kernel
theorem d_Mo_sum_15 : decode b_Mo_sum 15 = .ok (.aload_n 0, 1) := by decide +kernel
theorem d_Mo_sum_16 : decode b_Mo_sum 16 = .ok (.iload_n 2, 1) := by decide +kernel
theorem d_Mo_sum_17 : decode b_Mo_sum 17 = .ok (.invokevirtual 149, 3) := by decide +kernel
theorem d_Mo_sum_20 : decode b_Mo_sum 20 = .ok (.invokevirtual 117, 3) := by decide +kernel
theorem d_Mo_sum_23 : decode b_Mo_sum 23 = .ok (.iadd, 1) := by decide +kernel
theorem d_Mo_sum_24 : decode b_Mo_sum 24 = .ok (.istore_n 1, 1) := by decide +kernel
theorem d_Mo_sum_25 : decode b_Mo_sum 25 = .ok (.iinc 2 1, 3) := by decide +kernel
theorem d_Mo_sum_28 : decode b_Mo_sum 28 = .ok (.goto (-24), 3) := by decide +kernel
theorem d_Mo_sum_31 : decode b_Mo_sum 31 = .ok (.iload_n 1, 1) := by decide +kernel
theorem d_Mo_sum_32 : decode b_Mo_sum 32 = .ok (.ireturn, 1) := by decide +kernel
def s_Mo_sum_0 (P_Mo_givenTo : MI → ML → Int32 → Prop) (Q_Mo_givenTo : MI → ML → Int32 → Int32 → MI → ML → Prop) (P_Mo_cost : MI → ML → Int32 → Int32 → Prop) (Q_Mo_cost : MI → ML → Int32 → Int32 → Int32 → MI → ML → Prop) (σ : MI) (τ : ML) (K4 : Int32 → Int32 → MI → ML → Prop) (R : Int32 → MI → ML → Prop) : Prop :=
  K4 0 0 σ τ
def s_Mo_sum_4 (P_Mo_givenTo : MI → ML → Int32 → Prop) (Q_Mo_givenTo : MI → ML → Int32 → Int32 → MI → ML → Prop) (P_Mo_cost : MI → ML → Int32 → Int32 → Prop) (Q_Mo_cost : MI → ML → Int32 → Int32 → Int32 → MI → ML → Prop) (σ : MI) (τ : ML) (x1 : Int32) (x2 : Int32) (K4 : Int32 → Int32 → MI → ML → Prop) (R : Int32 → MI → ML → Prop) : Prop :=
  ((σ 29 1) ≤ x2 →
  (R x1 σ τ)) ∧
  (¬ (σ 29 1) ≤ x2 →
  (P_Mo_givenTo σ τ x2 ∧ ∀ (r17 : Int32) (s17 : MI) (t17 : ML), Q_Mo_givenTo σ τ x2 r17 s17 t17 → (P_Mo_cost s17 t17 x2 r17 ∧ ∀ (r20 : Int32) (s20 : MI) (t20 : ML), Q_Mo_cost s17 t17 x2 r17 r20 s20 t20 → (∀ y24 : Int32, y24 = x1 + r20 → (∀ y25 : Int32, y25 = x2 + 1 → (K4 y24 y25 s20 t20))))))
set_option maxHeartbeats 4000000 in
set_option maxRecDepth 100000 in
theorem k_Mo_sum (l : Launch) (D : va_G) (ad : Nat → Nat) (ci cl : ClassId)
    (pre : MI → ML → Prop) (post : MI → ML → Int32 → MI → ML → Prop) (P_Mo_givenTo : MI → ML → Int32 → Prop) (Q_Mo_givenTo : MI → ML → Int32 → Int32 → MI → ML → Prop) (P_Mo_cost : MI → ML → Int32 → Int32 → Prop) (Q_Mo_cost : MI → ML → Int32 → Int32 → Int32 → MI → ML → Prop)
    (h_Mo_givenTo : ∀ (sz : Nat) (σ : MI) (τ : ML) (b0 : Int32), P_Mo_givenTo σ τ b0 → gMi l D (xw ad ci cl) (xt ci cl) (xa ad) y_Mo_givenTo w_Mo_givenTo rm_Mo_givenTo [.ref (ad 29), .int b0] sz σ τ (Q_Mo_givenTo σ τ b0))
    (h_Mo_cost : ∀ (sz : Nat) (σ : MI) (τ : ML) (b0 : Int32) (b1 : Int32), P_Mo_cost σ τ b0 b1 → gMi l D (xw ad ci cl) (xt ci cl) (xa ad) y_Mo_cost w_Mo_cost rm_Mo_cost [.ref (ad 29), .int b0, .int b1] sz σ τ (Q_Mo_cost σ τ b0 b1))
    (I4 : MI → ML → Int32 → Int32 → MI → ML → Prop) (m4 : MI → ML → Int32 → Int32 → MI → ML → Nat)
    (v0 : ∀ (σ0 : MI) (τ0 : ML), pre σ0 τ0 → s_Mo_sum_0 P_Mo_givenTo Q_Mo_givenTo P_Mo_cost Q_Mo_cost σ0 τ0 (fun z0 z1 σ9 τ9 => I4 σ0 τ0 z0 z1 σ9 τ9) (post σ0 τ0))
    (v4 : ∀ (σ0 : MI) (τ0 : ML) (x1 : Int32) (x2 : Int32) (σ : MI) (τ : ML), I4 σ0 τ0 x1 x2 σ τ → s_Mo_sum_4 P_Mo_givenTo Q_Mo_givenTo P_Mo_cost Q_Mo_cost σ τ x1 x2 (fun z0 z1 σ9 τ9 => I4 σ0 τ0 z0 z1 σ9 τ9 ∧ m4 σ0 τ0 z0 z1 σ9 τ9 < m4 σ0 τ0 x1 x2 σ τ) (post σ0 τ0)) :
    ∀ (sz : Nat) (σ0 : MI) (τ0 : ML), pre σ0 τ0 → gMi l D (xw ad ci cl) (xt ci cl) (xa ad) y_Mo_sum w_Mo_sum rm_Mo_sum [.ref (ad 29)] sz σ0 τ0 (post σ0 τ0) := by
  intro sz σ0 τ0 hpre
  refine gk_ofWi (cc := b_Mo_sum) (maxL := 3) (ret := (some .int)) (by decide) rfl xa_ok (Nat.le_of_ble_eq_true rfl) ?_
  intro p e s m below meth c ls hx hb hr hlocks hml hown hts hK hP hD hS hl
  have hl : lv_has ls 3 [(0, .ref (ad 29))] := hl
  have hown : s.vm.findClass R_Mo = some m.cls := hown
  have hL : ∀ n : Nat, (∀ (x1 : Int32) (x2 : Int32) (σ : MI) (τ : ML) (H : Heap) (locs : List Loc) (ls : Array Slot), m4 σ0 τ0 x1 x2 σ τ < n → I4 σ0 τ0 x1 x2 σ τ → va_P D classes ((xw ad ci cl) σ τ) H → va_D (gA (xa ad) s.heap.size) ((xw ad ci cl) σ τ) → va_S (gA (xa ad) s.heap.size) s.heap H locs → lv_has ls 3 [(0, .ref (ad 29)), (1, .int x1), (2, .int x2)] → W p l e rm_Mo_sum s m [.ref (ad 29)].toArray below meth c H locs 0 0 (gQi D (xw ad ci cl) (xt ci cl) (xa ad) below [.ref (ad 29)] s (post σ0 τ0)) (F0 m 4 ls [])) := by
    intro n
    induction n with
    | zero => exact fun _ _ _ _ _ _ _ hn => absurd hn (Nat.not_lt_zero _)
    | succ n ih =>
      · intro x1 x2 σ τ H locs ls hn hI hP hD hS hl
        have hv := v4 σ0 τ0 x1 x2 σ τ hI
        unfold s_Mo_sum_4 at hv
        refine lv_iload_n hx hb d_Mo_sum_4 rfl (lv_at hl 2 rfl) ?_
        refine lv_aload_n hx hb d_Mo_sum_5 rfl (lv_at hl 0 rfl) ?_
        refine va_get (D := D) (ci := 7) (v := .int (σ 29 1)) (C := R_Mo) (T := F_Mo) (N := 24) hx hb hts iw_Mo hown hK hP 29 rfl rfl 1 (by decide) (hts _ t_w248) (fun _ h9 => h9) rfl d_Mo_sum_6 ?_
        refine lv_icmp_ge (tgt := 31) hx hb d_Mo_sum_9 (by decide) (fun hc => ?_) (fun hc => ?_)
        · replace hv := hv.1 hc
          refine lv_iload_n hx hb d_Mo_sum_31 rfl (lv_at hl 1 rfl) ?_
          exact gk_iret hx hb hr hlocks hK hP hD hS hv d_Mo_sum_32
        · replace hv := hv.2 hc
          refine lv_iload_n hx hb d_Mo_sum_12 rfl (lv_at hl 1 rfl) ?_
          refine lv_aload_n hx hb d_Mo_sum_13 rfl (lv_at hl 0 rfl) ?_
          refine lv_iload_n hx hb d_Mo_sum_14 rfl (lv_at hl 2 rfl) ?_
          refine lv_aload_n hx hb d_Mo_sum_15 rfl (lv_at hl 0 rfl) ?_
          refine lv_iload_n hx hb d_Mo_sum_16 rfl (lv_at hl 2 rfl) ?_
          obtain ⟨hg, hv⟩ := hv
          refine gk_callVi (As := [.int x2]) (rest := [.int x2, .ref (ad 29), .int x1]) (b := ad 29) ⟨hx, hb, hml, hown, hts⟩ (h_Mo_givenTo _ σ τ x2 hg) (gk_cwV 1 hts t_w348 rfl rfl rfl (hts _ t_w345) (hts _ t_w346) (hts _ t_w347) (hts _ t_w252) (by decide +kernel) ⟨Nat.le_of_ble_eq_true rfl, Nat.le_of_ble_eq_true rfl⟩) hK hP hD hS (va_recv hK hP (ci := 7) (q0 := 29) rfl rfl) rfl hl.1 rfl (lv_room (Nat.le_of_ble_eq_true rfl)) d_Mo_sum_17 ⟨Nat.zero_le _, Nat.zero_le _⟩ ?_
          intro r17 s17 t17 H locs hw hP hD hS
          replace hv := hv r17 s17 t17 hw
          obtain ⟨hg, hv⟩ := hv
          refine gk_callVi (As := [.int x2, .int r17]) (rest := [.int x1]) (b := ad 29) ⟨hx, hb, hml, hown, hts⟩ (h_Mo_cost _ s17 t17 x2 r17 hg) (gk_cwV 2 hts t_w328 rfl rfl rfl (hts _ t_w325) (hts _ t_w326) (hts _ t_w327) (hts _ t_w252) (by decide +kernel) ⟨Nat.le_of_ble_eq_true rfl, Nat.le_of_ble_eq_true rfl⟩) hK hP hD hS (va_recv hK hP (ci := 7) (q0 := 29) rfl rfl) rfl hl.1 rfl (lv_room (Nat.le_of_ble_eq_true rfl)) d_Mo_sum_20 ⟨Nat.zero_le _, Nat.zero_le _⟩ ?_
          intro r20 s20 t20 H locs hw hP hD hS
          replace hv := hv r20 s20 t20 hw
          refine lv_iadd hx hb d_Mo_sum_23 ?_
          refine lv_topi (fun y24 ey24 => ?_)
          replace hv := hv y24 ey24
          refine lv_istore_n (lv' := [(1, .int y24), (0, .ref (ad 29)), (2, .int x2)]) hx hb d_Mo_sum_24 rfl hl (by decide) rfl (fun ls hl => ?_)
          obtain ⟨y25, ey25⟩ : ∃ z : Int32, z = x2 + 1 := ⟨_, rfl⟩
          replace hv := hv y25 ey25
          refine lv_iinc (v := y25) (lv' := [(2, .int y25), (1, .int y24), (0, .ref (ad 29))]) hx hb d_Mo_sum_25 hl (k := 2) rfl (by rw [ey25]; rfl) (by decide) rfl (fun ls hl => ?_)
          refine lv_goto (tgt := 4) hx hb d_Mo_sum_28 (by decide) ?_
          obtain ⟨hI, hm⟩ := hv
          exact ih y24 y25 s20 t20 _ _ _ (Nat.lt_of_lt_of_le hm (Nat.le_of_lt_succ hn)) hI hP hD hS (lv_sub hl [2, 1, 0] rfl)
  have hv := v0 σ0 τ0 hpre
  unfold s_Mo_sum_0 at hv
  refine lv_iconst (v := 0) hx hb d_Mo_sum_0 (by decide) ?_
  refine lv_istore_n (lv' := [(1, .int 0), (0, .ref (ad 29))]) hx hb d_Mo_sum_1 rfl hl (by decide) rfl (fun ls hl => ?_)
  refine lv_iconst (v := 0) hx hb d_Mo_sum_2 (by decide) ?_
  refine lv_istore_n (lv' := [(2, .int 0), (1, .int 0), (0, .ref (ad 29))]) hx hb d_Mo_sum_3 rfl hl (by decide) rfl (fun ls hl => ?_)
  exact (hL _) 0 0 σ0 τ0 _ _ _ (Nat.lt_succ_self _) hv hP hD hS (lv_sub hl [2, 1, 0] rfl)
theorem d_Mo_givenMany_0 : decode b_Mo_givenMany 0 = .ok (.iconst 0, 1) := by decide +kernel
theorem d_Mo_givenMany_1 : decode b_Mo_givenMany 1 = .ok (.istore_n 1, 1) := by decide +kernel
theorem d_Mo_givenMany_2 : decode b_Mo_givenMany 2 = .ok (.iconst 0, 1) := by decide +kernel
theorem d_Mo_givenMany_3 : decode b_Mo_givenMany 3 = .ok (.istore_n 2, 1) := by decide +kernel
theorem d_Mo_givenMany_4 : decode b_Mo_givenMany 4 = .ok (.iload_n 2, 1) := by decide +kernel
theorem d_Mo_givenMany_5 : decode b_Mo_givenMany 5 = .ok (.aload_n 0, 1) := by decide +kernel
theorem d_Mo_givenMany_6 : decode b_Mo_givenMany 6 = .ok (.getfield 68, 3) := by decide +kernel
theorem d_Mo_givenMany_9 : decode b_Mo_givenMany 9 = .ok (.if_icmp .ge 30, 3) := by decide +kernel
theorem d_Mo_givenMany_12 : decode b_Mo_givenMany 12 = .ok (.iload_n 1, 1) := by decide +kernel
theorem d_Mo_givenMany_13 : decode b_Mo_givenMany 13 = .ok (.aload_n 0, 1) := by decide +kernel
theorem d_Mo_givenMany_14 : decode b_Mo_givenMany 14 = .ok (.getfield 49, 3) := by decide +kernel
theorem d_Mo_givenMany_17 : decode b_Mo_givenMany 17 = .ok (.iload_n 2, 1) := by decide +kernel
theorem d_Mo_givenMany_18 : decode b_Mo_givenMany 18 = .ok (.iaload, 1) := by decide +kernel
theorem d_Mo_givenMany_19 : decode b_Mo_givenMany 19 = .ok (.aload_n 0, 1) := by decide +kernel
theorem d_Mo_givenMany_20 : decode b_Mo_givenMany 20 = .ok (.getfield 65, 3) := by decide +kernel
theorem d_Mo_givenMany_23 : decode b_Mo_givenMany 23 = .ok (.if_icmp .ge 7, 3) := by decide +kernel
theorem d_Mo_givenMany_26 : decode b_Mo_givenMany 26 = .ok (.iconst 1, 1) := by decide +kernel
theorem d_Mo_givenMany_27 : decode b_Mo_givenMany 27 = .ok (.goto 4, 3) := by decide +kernel
theorem d_Mo_givenMany_30 : decode b_Mo_givenMany 30 = .ok (.iconst 0, 1) := by decide +kernel
theorem d_Mo_givenMany_31 : decode b_Mo_givenMany 31 = .ok (.iadd, 1) := by decide +kernel
theorem d_Mo_givenMany_32 : decode b_Mo_givenMany 32 = .ok (.istore_n 1, 1) := by decide +kernel
theorem d_Mo_givenMany_33 : decode b_Mo_givenMany 33 = .ok (.iinc 2 1, 3) := by decide +kernel
theorem d_Mo_givenMany_36 : decode b_Mo_givenMany 36 = .ok (.goto (-32), 3) := by decide +kernel
theorem d_Mo_givenMany_39 : decode b_Mo_givenMany 39 = .ok (.iload_n 1, 1) := by decide +kernel
theorem d_Mo_givenMany_40 : decode b_Mo_givenMany 40 = .ok (.ireturn, 1) := by decide +kernel
def s_Mo_givenMany_0 (σ : MI) (τ : ML) (K4 : Int32 → Int32 → MI → ML → Prop) (R : Int32 → MI → ML → Prop) : Prop :=
  K4 0 0 σ τ
def s_Mo_givenMany_4 (σ : MI) (τ : ML) (x1 : Int32) (x2 : Int32) (K4 : Int32 → Int32 → MI → ML → Prop) (R : Int32 → MI → ML → Prop) : Prop :=
  ((σ 29 10) ≤ x2 →
  (R x1 σ τ)) ∧
  (¬ (σ 29 10) ≤ x2 →
  (vp_in x2 7 ∧ (((σ 29 1) ≤ (σ 43 (Int32.toNatClampNeg x2)) →
    (∀ y32 : Int32, y32 = x1 + 0 → (∀ y33 : Int32, y33 = x2 + 1 → (K4 y32 y33 σ τ)))) ∧
    (¬ (σ 29 1) ≤ (σ 43 (Int32.toNatClampNeg x2)) →
    (∀ y32 : Int32, y32 = x1 + 1 → (∀ y33 : Int32, y33 = x2 + 1 → (K4 y32 y33 σ τ)))))))
set_option maxHeartbeats 4000000 in
set_option maxRecDepth 100000 in
theorem k_Mo_givenMany (l : Launch) (D : va_G) (ad : Nat → Nat) (ci cl : ClassId)
    (pre : MI → ML → Prop) (post : MI → ML → Int32 → MI → ML → Prop)
    (I4 : MI → ML → Int32 → Int32 → MI → ML → Prop) (m4 : MI → ML → Int32 → Int32 → MI → ML → Nat)
    (v0 : ∀ (σ0 : MI) (τ0 : ML), pre σ0 τ0 → s_Mo_givenMany_0 σ0 τ0 (fun z0 z1 σ9 τ9 => I4 σ0 τ0 z0 z1 σ9 τ9) (post σ0 τ0))
    (v4 : ∀ (σ0 : MI) (τ0 : ML) (x1 : Int32) (x2 : Int32) (σ : MI) (τ : ML), I4 σ0 τ0 x1 x2 σ τ → s_Mo_givenMany_4 σ τ x1 x2 (fun z0 z1 σ9 τ9 => I4 σ0 τ0 z0 z1 σ9 τ9 ∧ m4 σ0 τ0 z0 z1 σ9 τ9 < m4 σ0 τ0 x1 x2 σ τ) (post σ0 τ0)) :
    ∀ (sz : Nat) (σ0 : MI) (τ0 : ML), pre σ0 τ0 → gMi l D (xw ad ci cl) (xt ci cl) (xa ad) y_Mo_givenMany w_Mo_givenMany rm_Mo_givenMany [.ref (ad 29)] sz σ0 τ0 (post σ0 τ0) := by
  intro sz σ0 τ0 hpre
  refine gk_ofWi (cc := b_Mo_givenMany) (maxL := 3) (ret := (some .int)) (by decide) rfl xa_ok (Nat.le_of_ble_eq_true rfl) ?_
  intro p e s m below meth c ls hx hb hr hlocks hml hown hts hK hP hD hS hl
  have hl : lv_has ls 3 [(0, .ref (ad 29))] := hl
  have hown : s.vm.findClass R_Mo = some m.cls := hown
  have hL : ∀ n : Nat, (∀ (x1 : Int32) (x2 : Int32) (σ : MI) (τ : ML) (H : Heap) (locs : List Loc) (ls : Array Slot), m4 σ0 τ0 x1 x2 σ τ < n → I4 σ0 τ0 x1 x2 σ τ → va_P D classes ((xw ad ci cl) σ τ) H → va_D (gA (xa ad) s.heap.size) ((xw ad ci cl) σ τ) → va_S (gA (xa ad) s.heap.size) s.heap H locs → lv_has ls 3 [(0, .ref (ad 29)), (1, .int x1), (2, .int x2)] → W p l e rm_Mo_givenMany s m [.ref (ad 29)].toArray below meth c H locs 0 0 (gQi D (xw ad ci cl) (xt ci cl) (xa ad) below [.ref (ad 29)] s (post σ0 τ0)) (F0 m 4 ls [])) := by
    intro n
    induction n with
    | zero => exact fun _ _ _ _ _ _ _ hn => absurd hn (Nat.not_lt_zero _)
    | succ n ih =>
      · intro x1 x2 σ τ H locs ls hn hI hP hD hS hl
        have hv := v4 σ0 τ0 x1 x2 σ τ hI
        unfold s_Mo_givenMany_4 at hv
        refine lv_iload_n hx hb d_Mo_givenMany_4 rfl (lv_at hl 2 rfl) ?_
        refine lv_aload_n hx hb d_Mo_givenMany_5 rfl (lv_at hl 0 rfl) ?_
        refine va_get (D := D) (ci := 7) (v := .int (σ 29 10)) (C := R_Mo) (T := F_Mo) (N := 24) hx hb hts iw_Mo hown hK hP 29 rfl rfl 10 (by decide) (hts _ t_w249) (fun _ h9 => h9) rfl d_Mo_givenMany_6 ?_
        refine lv_icmp_ge (tgt := 39) hx hb d_Mo_givenMany_9 (by decide) (fun hc => ?_) (fun hc => ?_)
        · replace hv := hv.1 hc
          refine lv_iload_n hx hb d_Mo_givenMany_39 rfl (lv_at hl 1 rfl) ?_
          exact gk_iret hx hb hr hlocks hK hP hD hS hv d_Mo_givenMany_40
        · replace hv := hv.2 hc
          refine lv_iload_n hx hb d_Mo_givenMany_12 rfl (lv_at hl 1 rfl) ?_
          refine lv_aload_n hx hb d_Mo_givenMany_13 rfl (lv_at hl 0 rfl) ?_
          refine va_get (D := D) (ci := 7) (v := .ref (ad 43)) (C := R_Mo) (T := F_Mo) (N := 24) hx hb hts iw_Mo hown hK hP 29 rfl rfl 19 (by decide) (hts _ t_w312) (fun _ h9 => h9) rfl d_Mo_givenMany_14 ?_
          refine lv_iload_n hx hb d_Mo_givenMany_17 rfl (lv_at hl 2 rfl) ?_
          obtain ⟨hi, hv⟩ := hv
          refine va_iald hx hb hK hP 43 0 rfl rfl hi d_Mo_givenMany_18 ?_
          refine lv_aload_n hx hb d_Mo_givenMany_19 rfl (lv_at hl 0 rfl) ?_
          refine va_get (D := D) (ci := 7) (v := .int (σ 29 1)) (C := R_Mo) (T := F_Mo) (N := 24) hx hb hts iw_Mo hown hK hP 29 rfl rfl 1 (by decide) (hts _ t_w248) (fun _ h9 => h9) rfl d_Mo_givenMany_20 ?_
          refine lv_icmp_ge (tgt := 30) hx hb d_Mo_givenMany_23 (by decide) (fun hc => ?_) (fun hc => ?_)
          · replace hv := hv.1 hc
            refine lv_iconst (v := 0) hx hb d_Mo_givenMany_30 (by decide) ?_
            refine lv_iadd hx hb d_Mo_givenMany_31 ?_
            refine lv_topi (fun y32 ey32 => ?_)
            replace hv := hv y32 ey32
            refine lv_istore_n (lv' := [(1, .int y32), (0, .ref (ad 29)), (2, .int x2)]) hx hb d_Mo_givenMany_32 rfl hl (by decide) rfl (fun ls hl => ?_)
            obtain ⟨y33, ey33⟩ : ∃ z : Int32, z = x2 + 1 := ⟨_, rfl⟩
            replace hv := hv y33 ey33
            refine lv_iinc (v := y33) (lv' := [(2, .int y33), (1, .int y32), (0, .ref (ad 29))]) hx hb d_Mo_givenMany_33 hl (k := 2) rfl (by rw [ey33]; rfl) (by decide) rfl (fun ls hl => ?_)
            refine lv_goto (tgt := 4) hx hb d_Mo_givenMany_36 (by decide) ?_
            obtain ⟨hI, hm⟩ := hv
            exact ih y32 y33 σ τ _ _ _ (Nat.lt_of_lt_of_le hm (Nat.le_of_lt_succ hn)) hI hP hD hS (lv_sub hl [2, 1, 0] rfl)
          · replace hv := hv.2 hc
            refine lv_iconst (v := 1) hx hb d_Mo_givenMany_26 (by decide) ?_
            refine lv_goto (tgt := 31) hx hb d_Mo_givenMany_27 (by decide) ?_
            refine lv_iadd hx hb d_Mo_givenMany_31 ?_
            refine lv_topi (fun y32 ey32 => ?_)
            replace hv := hv y32 ey32
            refine lv_istore_n (lv' := [(1, .int y32), (0, .ref (ad 29)), (2, .int x2)]) hx hb d_Mo_givenMany_32 rfl hl (by decide) rfl (fun ls hl => ?_)
            obtain ⟨y33, ey33⟩ : ∃ z : Int32, z = x2 + 1 := ⟨_, rfl⟩
            replace hv := hv y33 ey33
            refine lv_iinc (v := y33) (lv' := [(2, .int y33), (1, .int y32), (0, .ref (ad 29))]) hx hb d_Mo_givenMany_33 hl (k := 2) rfl (by rw [ey33]; rfl) (by decide) rfl (fun ls hl => ?_)
            refine lv_goto (tgt := 4) hx hb d_Mo_givenMany_36 (by decide) ?_
            obtain ⟨hI, hm⟩ := hv
            exact ih y32 y33 σ τ _ _ _ (Nat.lt_of_lt_of_le hm (Nat.le_of_lt_succ hn)) hI hP hD hS (lv_sub hl [2, 1, 0] rfl)
  have hv := v0 σ0 τ0 hpre
  unfold s_Mo_givenMany_0 at hv
  refine lv_iconst (v := 0) hx hb d_Mo_givenMany_0 (by decide) ?_
  refine lv_istore_n (lv' := [(1, .int 0), (0, .ref (ad 29))]) hx hb d_Mo_givenMany_1 rfl hl (by decide) rfl (fun ls hl => ?_)
  refine lv_iconst (v := 0) hx hb d_Mo_givenMany_2 (by decide) ?_
  refine lv_istore_n (lv' := [(2, .int 0), (1, .int 0), (0, .ref (ad 29))]) hx hb d_Mo_givenMany_3 rfl hl (by decide) rfl (fun ls hl => ?_)
  exact (hL _) 0 0 σ0 τ0 _ _ _ (Nat.lt_succ_self _) hv hP hD hS (lv_sub hl [2, 1, 0] rfl)
theorem d_Mo_assign_0 : decode b_Mo_assign 0 = .ok (.aload_n 0, 1) := by decide +kernel
theorem d_Mo_assign_1 : decode b_Mo_assign 1 = .ok (.iconst 0, 1) := by decide +kernel
theorem d_Mo_assign_2 : decode b_Mo_assign 2 = .ok (.putfield 61, 3) := by decide +kernel
theorem d_Mo_assign_5 : decode b_Mo_assign 5 = .ok (.aload_n 0, 1) := by decide +kernel
theorem d_Mo_assign_6 : decode b_Mo_assign 6 = .ok (.invokevirtual 152, 3) := by decide +kernel
theorem d_Mo_assign_9 : decode b_Mo_assign 9 = .ok (.aload_n 0, 1) := by decide +kernel
theorem d_Mo_assign_10 : decode b_Mo_assign 10 = .ok (.invokevirtual 155, 3) := by decide +kernel
theorem d_Mo_assign_13 : decode b_Mo_assign 13 = .ok (.ifCond .ne 7, 3) := by decide +kernel
theorem d_Mo_assign_16 : decode b_Mo_assign 16 = .ok (.iconst (-1), 1) := by decide +kernel
theorem d_Mo_assign_17 : decode b_Mo_assign 17 = .ok (.goto 7, 3) := by decide +kernel
theorem d_Mo_assign_20 : decode b_Mo_assign 20 = .ok (.aload_n 0, 1) := by decide +kernel
theorem d_Mo_assign_21 : decode b_Mo_assign 21 = .ok (.invokevirtual 158, 3) := by decide +kernel
theorem d_Mo_assign_24 : decode b_Mo_assign 24 = .ok (.ireturn, 1) := by decide +kernel
def s_Mo_assign_0 (P_Mo_search : MI → ML → Prop) (Q_Mo_search : MI → ML → MI → ML → Prop) (P_Mo_givenMany : MI → ML → Prop) (Q_Mo_givenMany : MI → ML → Int32 → MI → ML → Prop) (P_Mo_sum : MI → ML → Prop) (Q_Mo_sum : MI → ML → Int32 → MI → ML → Prop) (σ : MI) (τ : ML) (R : Int32 → MI → ML → Prop) : Prop :=
  ∀ s2 : MI, s2 = st2 σ 29 0 0 → (P_Mo_search s2 τ  ∧ ∀ (s6 : MI) (t6 : ML), Q_Mo_search s2 τ  s6 t6 → (P_Mo_givenMany s6 t6  ∧ ∀ (r10 : Int32) (s10 : MI) (t10 : ML), Q_Mo_givenMany s6 t6  r10 s10 t10 → ((¬ r10 = 0 →
  (P_Mo_sum s10 t10  ∧ ∀ (r21 : Int32) (s21 : MI) (t21 : ML), Q_Mo_sum s10 t10  r21 s21 t21 → (R r21 s21 t21))) ∧
  (r10 = 0 →
  (R ((-1)) s10 t10)))))
set_option maxHeartbeats 4000000 in
set_option maxRecDepth 100000 in
theorem k_Mo_assign (l : Launch) (D : va_G) (ad : Nat → Nat) (ci cl : ClassId)
    (pre : MI → ML → Prop) (post : MI → ML → Int32 → MI → ML → Prop) (P_Mo_search : MI → ML → Prop) (Q_Mo_search : MI → ML → MI → ML → Prop) (P_Mo_givenMany : MI → ML → Prop) (Q_Mo_givenMany : MI → ML → Int32 → MI → ML → Prop) (P_Mo_sum : MI → ML → Prop) (Q_Mo_sum : MI → ML → Int32 → MI → ML → Prop)
    (h_Mo_search : ∀ (sz : Nat) (σ : MI) (τ : ML), P_Mo_search σ τ → gMv l D (xw ad ci cl) (xt ci cl) (xa ad) y_Mo_search w_Mo_search rm_Mo_search [.ref (ad 29)] sz σ τ (Q_Mo_search σ τ))
    (h_Mo_givenMany : ∀ (sz : Nat) (σ : MI) (τ : ML), P_Mo_givenMany σ τ → gMi l D (xw ad ci cl) (xt ci cl) (xa ad) y_Mo_givenMany w_Mo_givenMany rm_Mo_givenMany [.ref (ad 29)] sz σ τ (Q_Mo_givenMany σ τ))
    (h_Mo_sum : ∀ (sz : Nat) (σ : MI) (τ : ML), P_Mo_sum σ τ → gMi l D (xw ad ci cl) (xt ci cl) (xa ad) y_Mo_sum w_Mo_sum rm_Mo_sum [.ref (ad 29)] sz σ τ (Q_Mo_sum σ τ))
    (v0 : ∀ (σ0 : MI) (τ0 : ML), pre σ0 τ0 → s_Mo_assign_0 P_Mo_search Q_Mo_search P_Mo_givenMany Q_Mo_givenMany P_Mo_sum Q_Mo_sum σ0 τ0 (post σ0 τ0)) :
    ∀ (sz : Nat) (σ0 : MI) (τ0 : ML), pre σ0 τ0 → gMi l D (xw ad ci cl) (xt ci cl) (xa ad) y_Mo_assign w_Mo_assign rm_Mo_assign [.ref (ad 29)] sz σ0 τ0 (post σ0 τ0) := by
  intro sz σ0 τ0 hpre
  refine gk_ofWi (cc := b_Mo_assign) (maxL := 1) (ret := (some .int)) (by decide) rfl xa_ok (Nat.le_of_ble_eq_true rfl) ?_
  intro p e s m below meth c ls hx hb hr hlocks hml hown hts hK hP hD hS hl
  have hl : lv_has ls 1 [(0, .ref (ad 29))] := hl
  have hown : s.vm.findClass R_Mo = some m.cls := hown
  have hv := v0 σ0 τ0 hpre
  unfold s_Mo_assign_0 at hv
  refine lv_aload_n hx hb d_Mo_assign_0 rfl (lv_at hl 0 rfl) ?_
  refine lv_iconst (v := 0) hx hb d_Mo_assign_1 (by decide) ?_
  refine va_put (D := D) (ci := 7) (v := .int 0) (ty := .int) (fs := [.int (σ0 29 0), .int (σ0 29 1), .ref (ad 30), .ref (ad 31), .ref (ad 32), .ref (ad 33), .ref (ad 34), .ref (ad 35), .int (σ0 29 8), .ref (ad 36), .int (σ0 29 10), .ref (ad 37), .ref (ad 38), .ref (ad 39), .ref (ad 40), .ref (ad 41), .ref (ad 42), .int (σ0 29 17), .int (σ0 29 18), .ref (ad 43), .ref (ad 44), .int (σ0 29 21), .ref (ad 45), .ref (ad 46)]) (C := R_Mo) (T := F_Mo) (N := 24) hx hb hts iw_Mo ty_Mo ty_Mo_ok nn_Mo hown hK hP hD hS 29 rfl rfl 0 (by decide) (hts _ t_w247) (fun _ h9 => h9) rfl (by decide +kernel) rfl rfl (Nat.le_of_ble_eq_true rfl) d_Mo_assign_2 (fun H locs hP hD hS => ?_)
  rw [xf_29_0] at hP hD
  obtain ⟨s2, es2⟩ : ∃ z : MI, z = st2 σ0 29 0 0 := ⟨_, rfl⟩
  rw [← es2] at hP hD
  replace hv := hv s2 es2
  refine lv_aload_n hx hb d_Mo_assign_5 rfl (lv_at hl 0 rfl) ?_
  obtain ⟨hg, hv⟩ := hv
  refine gk_callVv (As := []) (rest := []) (b := ad 29) ⟨hx, hb, hml, hown, hts⟩ (h_Mo_search _ s2 τ0  hg) (gk_cwV 0 hts t_w352 rfl rfl rfl (hts _ t_w349) (hts _ t_w350) (hts _ t_w351) (hts _ t_w252) (by decide +kernel) ⟨Nat.le_of_ble_eq_true rfl, Nat.le_of_ble_eq_true rfl⟩) hK hP hD hS (va_recv hK hP (ci := 7) (q0 := 29) rfl rfl) rfl hl.1 rfl (lv_room (Nat.le_of_ble_eq_true rfl)) d_Mo_assign_6 ⟨Nat.zero_le _, Nat.zero_le _⟩ ?_
  intro s6 t6 H locs hw hP hD hS
  replace hv := hv s6 t6 hw
  refine lv_aload_n hx hb d_Mo_assign_9 rfl (lv_at hl 0 rfl) ?_
  obtain ⟨hg, hv⟩ := hv
  refine gk_callVi (As := []) (rest := []) (b := ad 29) ⟨hx, hb, hml, hown, hts⟩ (h_Mo_givenMany _ s6 t6  hg) (gk_cwV 0 hts t_w356 rfl rfl rfl (hts _ t_w353) (hts _ t_w354) (hts _ t_w355) (hts _ t_w252) (by decide +kernel) ⟨Nat.le_of_ble_eq_true rfl, Nat.le_of_ble_eq_true rfl⟩) hK hP hD hS (va_recv hK hP (ci := 7) (q0 := 29) rfl rfl) rfl hl.1 rfl (lv_room (Nat.le_of_ble_eq_true rfl)) d_Mo_assign_10 ⟨Nat.zero_le _, Nat.zero_le _⟩ ?_
  intro r10 s10 t10 H locs hw hP hD hS
  replace hv := hv r10 s10 t10 hw
  refine lv_if_ne (tgt := 20) hx hb d_Mo_assign_13 (by decide) (fun hc => ?_) (fun hc => ?_)
  · replace hv := hv.1 hc
    refine lv_aload_n hx hb d_Mo_assign_20 rfl (lv_at hl 0 rfl) ?_
    obtain ⟨hg, hv⟩ := hv
    refine gk_callVi (As := []) (rest := []) (b := ad 29) ⟨hx, hb, hml, hown, hts⟩ (h_Mo_sum _ s10 t10  hg) (gk_cwV 0 hts t_w360 rfl rfl rfl (hts _ t_w357) (hts _ t_w358) (hts _ t_w359) (hts _ t_w252) (by decide +kernel) ⟨Nat.le_of_ble_eq_true rfl, Nat.le_of_ble_eq_true rfl⟩) hK hP hD hS (va_recv hK hP (ci := 7) (q0 := 29) rfl rfl) rfl hl.1 rfl (lv_room (Nat.le_of_ble_eq_true rfl)) d_Mo_assign_21 ⟨Nat.zero_le _, Nat.zero_le _⟩ ?_
    intro r21 s21 t21 H locs hw hP hD hS
    replace hv := hv r21 s21 t21 hw
    exact gk_iret hx hb hr hlocks hK hP hD hS hv d_Mo_assign_24
  · replace hv := hv.2 hc
    refine lv_iconst (v := (-1)) hx hb d_Mo_assign_16 (by decide) ?_
    refine lv_goto (tgt := 24) hx hb d_Mo_assign_17 (by decide) ?_
    exact gk_iret hx hb hr hlocks hK hP hD hS hv d_Mo_assign_24
theorem d_Mo_before_0 : decode b_Mo_before 0 = .ok (.iconst (-1), 1) := by decide +kernel
theorem d_Mo_before_1 : decode b_Mo_before 1 = .ok (.istore_n 3, 1) := by decide +kernel
theorem d_Mo_before_2 : decode b_Mo_before 2 = .ok (.aload_n 0, 1) := by decide +kernel
theorem d_Mo_before_3 : decode b_Mo_before 3 = .ok (.aload_n 0, 1) := by decide +kernel
theorem d_Mo_before_4 : decode b_Mo_before 4 = .ok (.iload_n 1, 1) := by decide +kernel
theorem d_Mo_before_5 : decode b_Mo_before 5 = .ok (.invokevirtual 149, 3) := by decide +kernel
theorem d_Mo_before_8 : decode b_Mo_before 8 = .ok (.iconst (-1), 1) := by decide +kernel
theorem d_Mo_before_9 : decode b_Mo_before 9 = .ok (.invokevirtual 100, 3) := by decide +kernel
theorem d_Mo_before_12 : decode b_Mo_before 12 = .ok (.istore 4, 2) := by decide +kernel
theorem d_Mo_before_14 : decode b_Mo_before 14 = .ok (.iload 4, 2) := by decide +kernel
theorem d_Mo_before_16 : decode b_Mo_before 16 = .ok (.iload_n 2, 1) := by decide +kernel
theorem d_Mo_before_17 : decode b_Mo_before 17 = .ok (.if_icmp .eq 22, 3) := by decide +kernel
theorem d_Mo_before_20 : decode b_Mo_before 20 = .ok (.iload 4, 2) := by decide +kernel
theorem d_Mo_before_22 : decode b_Mo_before 22 = .ok (.istore_n 3, 1) := by decide +kernel
theorem d_Mo_before_23 : decode b_Mo_before 23 = .ok (.aload_n 0, 1) := by decide +kernel
theorem d_Mo_before_24 : decode b_Mo_before 24 = .ok (.aload_n 0, 1) := by decide +kernel
theorem d_Mo_before_25 : decode b_Mo_before 25 = .ok (.iload_n 1, 1) := by decide +kernel
theorem d_Mo_before_26 : decode b_Mo_before 26 = .ok (.invokevirtual 149, 3) := by decide +kernel
theorem d_Mo_before_29 : decode b_Mo_before 29 = .ok (.iload 4, 2) := by decide +kernel
theorem d_Mo_before_31 : decode b_Mo_before 31 = .ok (.invokevirtual 100, 3) := by decide +kernel
theorem d_Mo_before_34 : decode b_Mo_before 34 = .ok (.istore 4, 2) := by decide +kernel
theorem d_Mo_before_36 : decode b_Mo_before 36 = .ok (.goto (-22), 3) := by decide +kernel
theorem d_Mo_before_39 : decode b_Mo_before 39 = .ok (.iload_n 3, 1) := by decide +kernel
theorem d_Mo_before_40 : decode b_Mo_before 40 = .ok (.ireturn, 1) := by decide +kernel
def s_Mo_before_0 (P_Mo_givenTo : MI → ML → Int32 → Prop) (Q_Mo_givenTo : MI → ML → Int32 → Int32 → MI → ML → Prop) (P_Mo_next : MI → ML → Int32 → Int32 → Prop) (Q_Mo_next : MI → ML → Int32 → Int32 → Int32 → MI → ML → Prop) (σ : MI) (τ : ML) (a1 : Int32) (a2 : Int32) (K14 : Int32 → Int32 → Int32 → Int32 → MI → ML → Prop) (R : Int32 → MI → ML → Prop) : Prop :=
  ∀ y1 : Int32, y1 = (-1) → (P_Mo_givenTo σ τ a1 ∧ ∀ (r5 : Int32) (s5 : MI) (t5 : ML), Q_Mo_givenTo σ τ a1 r5 s5 t5 → (P_Mo_next s5 t5 r5 ((-1)) ∧ ∀ (r9 : Int32) (s9 : MI) (t9 : ML), Q_Mo_next s5 t5 r5 ((-1)) r9 s9 t9 → (K14 a1 a2 y1 r9 s9 t9)))
def s_Mo_before_14 (P_Mo_givenTo : MI → ML → Int32 → Prop) (Q_Mo_givenTo : MI → ML → Int32 → Int32 → MI → ML → Prop) (P_Mo_next : MI → ML → Int32 → Int32 → Prop) (Q_Mo_next : MI → ML → Int32 → Int32 → Int32 → MI → ML → Prop) (σ : MI) (τ : ML) (x1 : Int32) (x2 : Int32) (x3 : Int32) (x4 : Int32) (K14 : Int32 → Int32 → Int32 → Int32 → MI → ML → Prop) (R : Int32 → MI → ML → Prop) : Prop :=
  (x4 = x2 →
  (R x3 σ τ)) ∧
  (¬ x4 = x2 →
  (P_Mo_givenTo σ τ x1 ∧ ∀ (r26 : Int32) (s26 : MI) (t26 : ML), Q_Mo_givenTo σ τ x1 r26 s26 t26 → (P_Mo_next s26 t26 r26 x4 ∧ ∀ (r31 : Int32) (s31 : MI) (t31 : ML), Q_Mo_next s26 t26 r26 x4 r31 s31 t31 → (K14 x1 x2 x4 r31 s31 t31))))
set_option maxHeartbeats 4000000 in
set_option maxRecDepth 100000 in
theorem k_Mo_before (l : Launch) (D : va_G) (ad : Nat → Nat) (ci cl : ClassId)
    (pre : MI → ML → Int32 → Int32 → Prop) (post : MI → ML → Int32 → Int32 → Int32 → MI → ML → Prop) (P_Mo_givenTo : MI → ML → Int32 → Prop) (Q_Mo_givenTo : MI → ML → Int32 → Int32 → MI → ML → Prop) (P_Mo_next : MI → ML → Int32 → Int32 → Prop) (Q_Mo_next : MI → ML → Int32 → Int32 → Int32 → MI → ML → Prop)
    (h_Mo_givenTo : ∀ (sz : Nat) (σ : MI) (τ : ML) (b0 : Int32), P_Mo_givenTo σ τ b0 → gMi l D (xw ad ci cl) (xt ci cl) (xa ad) y_Mo_givenTo w_Mo_givenTo rm_Mo_givenTo [.ref (ad 29), .int b0] sz σ τ (Q_Mo_givenTo σ τ b0))
    (h_Mo_next : ∀ (sz : Nat) (σ : MI) (τ : ML) (b0 : Int32) (b1 : Int32), P_Mo_next σ τ b0 b1 → gMi l D (xw ad ci cl) (xt ci cl) (xa ad) y_Mo_next w_Mo_next rm_Mo_next [.ref (ad 29), .int b0, .int b1] sz σ τ (Q_Mo_next σ τ b0 b1))
    (I14 : MI → ML → Int32 → Int32 → Int32 → Int32 → Int32 → Int32 → MI → ML → Prop) (m14 : MI → ML → Int32 → Int32 → Int32 → Int32 → Int32 → Int32 → MI → ML → Nat)
    (v0 : ∀ (σ0 : MI) (τ0 : ML) (a1 : Int32) (a2 : Int32), pre σ0 τ0 a1 a2 → s_Mo_before_0 P_Mo_givenTo Q_Mo_givenTo P_Mo_next Q_Mo_next σ0 τ0 a1 a2 (fun z0 z1 z2 z3 σ9 τ9 => I14 σ0 τ0 a1 a2 z0 z1 z2 z3 σ9 τ9) (post σ0 τ0 a1 a2))
    (v14 : ∀ (σ0 : MI) (τ0 : ML) (a1 : Int32) (a2 : Int32) (x1 : Int32) (x2 : Int32) (x3 : Int32) (x4 : Int32) (σ : MI) (τ : ML), I14 σ0 τ0 a1 a2 x1 x2 x3 x4 σ τ → s_Mo_before_14 P_Mo_givenTo Q_Mo_givenTo P_Mo_next Q_Mo_next σ τ x1 x2 x3 x4 (fun z0 z1 z2 z3 σ9 τ9 => I14 σ0 τ0 a1 a2 z0 z1 z2 z3 σ9 τ9 ∧ m14 σ0 τ0 a1 a2 z0 z1 z2 z3 σ9 τ9 < m14 σ0 τ0 a1 a2 x1 x2 x3 x4 σ τ) (post σ0 τ0 a1 a2)) :
    ∀ (sz : Nat) (σ0 : MI) (τ0 : ML) (a1 : Int32) (a2 : Int32), pre σ0 τ0 a1 a2 → gMi l D (xw ad ci cl) (xt ci cl) (xa ad) y_Mo_before w_Mo_before rm_Mo_before [.ref (ad 29), .int a1, .int a2] sz σ0 τ0 (post σ0 τ0 a1 a2) := by
  intro sz σ0 τ0 a1 a2 hpre
  refine gk_ofWi (cc := b_Mo_before) (maxL := 5) (ret := (some .int)) (by decide) rfl xa_ok (Nat.le_of_ble_eq_true rfl) ?_
  intro p e s m below meth c ls hx hb hr hlocks hml hown hts hK hP hD hS hl
  have hl : lv_has ls 5 [(0, .ref (ad 29)), (1, .int a1), (2, .int a2)] := hl
  have hown : s.vm.findClass R_Mo = some m.cls := hown
  have hL : ∀ n : Nat, (∀ (x1 : Int32) (x2 : Int32) (x3 : Int32) (x4 : Int32) (σ : MI) (τ : ML) (H : Heap) (locs : List Loc) (ls : Array Slot), m14 σ0 τ0 a1 a2 x1 x2 x3 x4 σ τ < n → I14 σ0 τ0 a1 a2 x1 x2 x3 x4 σ τ → va_P D classes ((xw ad ci cl) σ τ) H → va_D (gA (xa ad) s.heap.size) ((xw ad ci cl) σ τ) → va_S (gA (xa ad) s.heap.size) s.heap H locs → lv_has ls 5 [(0, .ref (ad 29)), (1, .int x1), (2, .int x2), (3, .int x3), (4, .int x4)] → W p l e rm_Mo_before s m [.ref (ad 29), .int a1, .int a2].toArray below meth c H locs 0 0 (gQi D (xw ad ci cl) (xt ci cl) (xa ad) below [.ref (ad 29), .int a1, .int a2] s (post σ0 τ0 a1 a2)) (F0 m 14 ls [])) := by
    intro n
    induction n with
    | zero => exact fun _ _ _ _ _ _ _ _ _ hn => absurd hn (Nat.not_lt_zero _)
    | succ n ih =>
      · intro x1 x2 x3 x4 σ τ H locs ls hn hI hP hD hS hl
        have hv := v14 σ0 τ0 a1 a2 x1 x2 x3 x4 σ τ hI
        unfold s_Mo_before_14 at hv
        refine lv_iload hx hb d_Mo_before_14 (lv_at hl 4 rfl) ?_
        refine lv_iload_n hx hb d_Mo_before_16 rfl (lv_at hl 2 rfl) ?_
        refine lv_icmp_eq (tgt := 39) hx hb d_Mo_before_17 (by decide) (fun hc => ?_) (fun hc => ?_)
        · replace hv := hv.1 hc
          refine lv_iload_n hx hb d_Mo_before_39 rfl (lv_at hl 3 rfl) ?_
          exact gk_iret hx hb hr hlocks hK hP hD hS hv d_Mo_before_40
        · replace hv := hv.2 hc
          refine lv_iload hx hb d_Mo_before_20 (lv_at hl 4 rfl) ?_
          refine lv_istore_n (lv' := [(3, .int x4), (0, .ref (ad 29)), (1, .int x1), (2, .int x2), (4, .int x4)]) hx hb d_Mo_before_22 rfl hl (by decide) rfl (fun ls hl => ?_)
          refine lv_aload_n hx hb d_Mo_before_23 rfl (lv_at hl 1 rfl) ?_
          refine lv_aload_n hx hb d_Mo_before_24 rfl (lv_at hl 1 rfl) ?_
          refine lv_iload_n hx hb d_Mo_before_25 rfl (lv_at hl 2 rfl) ?_
          obtain ⟨hg, hv⟩ := hv
          refine gk_callVi (As := [.int x1]) (rest := [.ref (ad 29)]) (b := ad 29) ⟨hx, hb, hml, hown, hts⟩ (h_Mo_givenTo _ σ τ x1 hg) (gk_cwV 1 hts t_w348 rfl rfl rfl (hts _ t_w345) (hts _ t_w346) (hts _ t_w347) (hts _ t_w252) (by decide +kernel) ⟨Nat.le_of_ble_eq_true rfl, Nat.le_of_ble_eq_true rfl⟩) hK hP hD hS (va_recv hK hP (ci := 7) (q0 := 29) rfl rfl) rfl hl.1 rfl (lv_room (Nat.le_of_ble_eq_true rfl)) d_Mo_before_26 ⟨Nat.zero_le _, Nat.zero_le _⟩ ?_
          intro r26 s26 t26 H locs hw hP hD hS
          replace hv := hv r26 s26 t26 hw
          refine lv_iload hx hb d_Mo_before_29 (lv_at hl 4 rfl) ?_
          obtain ⟨hg, hv⟩ := hv
          refine gk_callVi (As := [.int r26, .int x4]) (rest := []) (b := ad 29) ⟨hx, hb, hml, hown, hts⟩ (h_Mo_next _ s26 t26 r26 x4 hg) (gk_cwV 2 hts t_w286 rfl rfl rfl (hts _ t_w283) (hts _ t_w284) (hts _ t_w285) (hts _ t_w252) (by decide +kernel) ⟨Nat.le_of_ble_eq_true rfl, Nat.le_of_ble_eq_true rfl⟩) hK hP hD hS (va_recv hK hP (ci := 7) (q0 := 29) rfl rfl) rfl hl.1 rfl (lv_room (Nat.le_of_ble_eq_true rfl)) d_Mo_before_31 ⟨Nat.zero_le _, Nat.zero_le _⟩ ?_
          intro r31 s31 t31 H locs hw hP hD hS
          replace hv := hv r31 s31 t31 hw
          refine lv_istore (lv' := [(4, .int r31), (3, .int x4), (0, .ref (ad 29)), (1, .int x1), (2, .int x2)]) hx hb d_Mo_before_34 hl (by decide) rfl (fun ls hl => ?_)
          refine lv_goto (tgt := 14) hx hb d_Mo_before_36 (by decide) ?_
          obtain ⟨hI, hm⟩ := hv
          exact ih x1 x2 x4 r31 s31 t31 _ _ _ (Nat.lt_of_lt_of_le hm (Nat.le_of_lt_succ hn)) hI hP hD hS (lv_sub hl [2, 3, 4, 1, 0] rfl)
  have hv := v0 σ0 τ0 a1 a2 hpre
  unfold s_Mo_before_0 at hv
  refine lv_iconst (v := (-1)) hx hb d_Mo_before_0 (by decide) ?_
  refine lv_topi (fun y1 ey1 => ?_)
  replace hv := hv y1 ey1
  refine lv_istore_n (lv' := [(3, .int y1), (0, .ref (ad 29)), (1, .int a1), (2, .int a2)]) hx hb d_Mo_before_1 rfl hl (by decide) rfl (fun ls hl => ?_)
  refine lv_aload_n hx hb d_Mo_before_2 rfl (lv_at hl 1 rfl) ?_
  refine lv_aload_n hx hb d_Mo_before_3 rfl (lv_at hl 1 rfl) ?_
  refine lv_iload_n hx hb d_Mo_before_4 rfl (lv_at hl 2 rfl) ?_
  obtain ⟨hg, hv⟩ := hv
  refine gk_callVi (As := [.int a1]) (rest := [.ref (ad 29)]) (b := ad 29) ⟨hx, hb, hml, hown, hts⟩ (h_Mo_givenTo _ σ0 τ0 a1 hg) (gk_cwV 1 hts t_w348 rfl rfl rfl (hts _ t_w345) (hts _ t_w346) (hts _ t_w347) (hts _ t_w252) (by decide +kernel) ⟨Nat.le_of_ble_eq_true rfl, Nat.le_of_ble_eq_true rfl⟩) hK hP hD hS (va_recv hK hP (ci := 7) (q0 := 29) rfl rfl) rfl hl.1 rfl (lv_room (Nat.le_of_ble_eq_true rfl)) d_Mo_before_5 ⟨Nat.zero_le _, Nat.zero_le _⟩ ?_
  intro r5 s5 t5 H locs hw hP hD hS
  replace hv := hv r5 s5 t5 hw
  refine lv_iconst (v := (-1)) hx hb d_Mo_before_8 (by decide) ?_
  obtain ⟨hg, hv⟩ := hv
  refine gk_callVi (As := [.int r5, .int ((-1))]) (rest := []) (b := ad 29) ⟨hx, hb, hml, hown, hts⟩ (h_Mo_next _ s5 t5 r5 ((-1)) hg) (gk_cwV 2 hts t_w286 rfl rfl rfl (hts _ t_w283) (hts _ t_w284) (hts _ t_w285) (hts _ t_w252) (by decide +kernel) ⟨Nat.le_of_ble_eq_true rfl, Nat.le_of_ble_eq_true rfl⟩) hK hP hD hS (va_recv hK hP (ci := 7) (q0 := 29) rfl rfl) rfl hl.1 rfl (lv_room (Nat.le_of_ble_eq_true rfl)) d_Mo_before_9 ⟨Nat.zero_le _, Nat.zero_le _⟩ ?_
  intro r9 s9 t9 H locs hw hP hD hS
  replace hv := hv r9 s9 t9 hw
  refine lv_istore (lv' := [(4, .int r9), (3, .int y1), (0, .ref (ad 29)), (1, .int a1), (2, .int a2)]) hx hb d_Mo_before_12 hl (by decide) rfl (fun ls hl => ?_)
  exact (hL _) a1 a2 y1 r9 s9 t9 _ _ _ (Nat.lt_succ_self _) hv hP hD hS (lv_sub hl [2, 3, 4, 1, 0] rfl)
theorem d_Mo_travelTo_0 : decode b_Mo_travelTo 0 = .ok (.aload_n 0, 1) := by decide +kernel
theorem d_Mo_travelTo_1 : decode b_Mo_travelTo 1 = .ok (.getfield 49, 3) := by decide +kernel
theorem d_Mo_travelTo_4 : decode b_Mo_travelTo 4 = .ok (.iload_n 1, 1) := by decide +kernel
theorem d_Mo_travelTo_5 : decode b_Mo_travelTo 5 = .ok (.iaload, 1) := by decide +kernel
theorem d_Mo_travelTo_6 : decode b_Mo_travelTo 6 = .ok (.istore_n 2, 1) := by decide +kernel
theorem d_Mo_travelTo_7 : decode b_Mo_travelTo 7 = .ok (.iload_n 2, 1) := by decide +kernel
theorem d_Mo_travelTo_8 : decode b_Mo_travelTo 8 = .ok (.aload_n 0, 1) := by decide +kernel
theorem d_Mo_travelTo_9 : decode b_Mo_travelTo 9 = .ok (.getfield 65, 3) := by decide +kernel
theorem d_Mo_travelTo_12 : decode b_Mo_travelTo 12 = .ok (.if_icmp .ne 5, 3) := by decide +kernel
theorem d_Mo_travelTo_15 : decode b_Mo_travelTo 15 = .ok (.iconst (-1), 1) := by decide +kernel
theorem d_Mo_travelTo_16 : decode b_Mo_travelTo 16 = .ok (.ireturn, 1) := by decide +kernel
theorem d_Mo_travelTo_17 : decode b_Mo_travelTo 17 = .ok (.aload_n 0, 1) := by decide +kernel
theorem d_Mo_travelTo_18 : decode b_Mo_travelTo 18 = .ok (.iload_n 2, 1) := by decide +kernel
theorem d_Mo_travelTo_19 : decode b_Mo_travelTo 19 = .ok (.iload_n 1, 1) := by decide +kernel
theorem d_Mo_travelTo_20 : decode b_Mo_travelTo 20 = .ok (.invokevirtual 161, 3) := by decide +kernel
theorem d_Mo_travelTo_23 : decode b_Mo_travelTo 23 = .ok (.istore_n 3, 1) := by decide +kernel
theorem d_Mo_travelTo_24 : decode b_Mo_travelTo 24 = .ok (.aload_n 0, 1) := by decide +kernel
theorem d_Mo_travelTo_25 : decode b_Mo_travelTo 25 = .ok (.getfield 46, 3) := by decide +kernel
theorem d_Mo_travelTo_28 : decode b_Mo_travelTo 28 = .ok (.iconst 5, 1) := by decide +kernel
theorem d_Mo_travelTo_29 : decode b_Mo_travelTo 29 = .ok (.iload_n 3, 1) := by decide +kernel
theorem d_Mo_travelTo_30 : decode b_Mo_travelTo 30 = .ok (.ifCond .ge 12, 3) := by decide +kernel
theorem d_Mo_travelTo_33 : decode b_Mo_travelTo 33 = .ok (.aload_n 0, 1) := by decide +kernel
theorem d_Mo_travelTo_34 : decode b_Mo_travelTo 34 = .ok (.getfield 19, 3) := by decide +kernel
theorem d_Mo_travelTo_37 : decode b_Mo_travelTo 37 = .ok (.iload_n 2, 1) := by decide +kernel
theorem d_Mo_travelTo_38 : decode b_Mo_travelTo 38 = .ok (.iaload, 1) := by decide +kernel
theorem d_Mo_travelTo_39 : decode b_Mo_travelTo 39 = .ok (.goto 9, 3) := by decide +kernel
theorem d_Mo_travelTo_42 : decode b_Mo_travelTo 42 = .ok (.aload_n 0, 1) := by decide +kernel
theorem d_Mo_travelTo_43 : decode b_Mo_travelTo 43 = .ok (.getfield 43, 3) := by decide +kernel
theorem d_Mo_travelTo_46 : decode b_Mo_travelTo 46 = .ok (.iload_n 3, 1) := by decide +kernel
theorem d_Mo_travelTo_47 : decode b_Mo_travelTo 47 = .ok (.iaload, 1) := by decide +kernel
theorem d_Mo_travelTo_48 : decode b_Mo_travelTo 48 = .ok (.imul, 1) := by decide +kernel
theorem d_Mo_travelTo_49 : decode b_Mo_travelTo 49 = .ok (.aload_n 0, 1) := by decide +kernel
theorem d_Mo_travelTo_50 : decode b_Mo_travelTo 50 = .ok (.getfield 43, 3) := by decide +kernel
theorem d_Mo_travelTo_53 : decode b_Mo_travelTo 53 = .ok (.iload_n 1, 1) := by decide +kernel
theorem d_Mo_travelTo_54 : decode b_Mo_travelTo 54 = .ok (.iaload, 1) := by decide +kernel
theorem d_Mo_travelTo_55 : decode b_Mo_travelTo 55 = .ok (.iadd, 1) := by decide +kernel
theorem d_Mo_travelTo_56 : decode b_Mo_travelTo 56 = .ok (.iaload, 1) := by decide +kernel
theorem d_Mo_travelTo_57 : decode b_Mo_travelTo 57 = .ok (.ireturn, 1) := by decide +kernel
def s_Mo_travelTo_0 (P_Mo_before : MI → ML → Int32 → Int32 → Prop) (Q_Mo_before : MI → ML → Int32 → Int32 → Int32 → MI → ML → Prop) (σ : MI) (τ : ML) (a1 : Int32) (R : Int32 → MI → ML → Prop) : Prop :=
  vp_in a1 7 ∧ (∀ y6 : Int32, y6 = σ 43 (Int32.toNatClampNeg a1) → ((¬ y6 = (σ 29 1) →
  (P_Mo_before σ τ y6 a1 ∧ ∀ (r20 : Int32) (s20 : MI) (t20 : ML), Q_Mo_before σ τ y6 a1 r20 s20 t20 → ((0 ≤ r20 →
    (vp_in r20 7 ∧ (vp_in a1 7 ∧ (vp_in ((5 * (s20 41 (Int32.toNatClampNeg r20))) + (s20 41 (Int32.toNatClampNeg a1))) 25 ∧ (R (s20 42 (Int32.toNatClampNeg ((5 * (s20 41 (Int32.toNatClampNeg r20))) + (s20 41 (Int32.toNatClampNeg a1))))) s20 t20))))) ∧
    (¬ 0 ≤ r20 →
    (vp_in y6 4 ∧ (vp_in a1 7 ∧ (vp_in ((5 * (s20 33 (Int32.toNatClampNeg y6))) + (s20 41 (Int32.toNatClampNeg a1))) 25 ∧ (R (s20 42 (Int32.toNatClampNeg ((5 * (s20 33 (Int32.toNatClampNeg y6))) + (s20 41 (Int32.toNatClampNeg a1))))) s20 t20)))))))) ∧
  (y6 = (σ 29 1) →
  (R ((-1)) σ τ))))
set_option maxHeartbeats 4000000 in
set_option maxRecDepth 100000 in
theorem k_Mo_travelTo (l : Launch) (D : va_G) (ad : Nat → Nat) (ci cl : ClassId)
    (pre : MI → ML → Int32 → Prop) (post : MI → ML → Int32 → Int32 → MI → ML → Prop) (P_Mo_before : MI → ML → Int32 → Int32 → Prop) (Q_Mo_before : MI → ML → Int32 → Int32 → Int32 → MI → ML → Prop)
    (h_Mo_before : ∀ (sz : Nat) (σ : MI) (τ : ML) (b0 : Int32) (b1 : Int32), P_Mo_before σ τ b0 b1 → gMi l D (xw ad ci cl) (xt ci cl) (xa ad) y_Mo_before w_Mo_before rm_Mo_before [.ref (ad 29), .int b0, .int b1] sz σ τ (Q_Mo_before σ τ b0 b1))
    (v0 : ∀ (σ0 : MI) (τ0 : ML) (a1 : Int32), pre σ0 τ0 a1 → s_Mo_travelTo_0 P_Mo_before Q_Mo_before σ0 τ0 a1 (post σ0 τ0 a1)) :
    ∀ (sz : Nat) (σ0 : MI) (τ0 : ML) (a1 : Int32), pre σ0 τ0 a1 → gMi l D (xw ad ci cl) (xt ci cl) (xa ad) y_Mo_travelTo w_Mo_travelTo rm_Mo_travelTo [.ref (ad 29), .int a1] sz σ0 τ0 (post σ0 τ0 a1) := by
  intro sz σ0 τ0 a1 hpre
  refine gk_ofWi (cc := b_Mo_travelTo) (maxL := 4) (ret := (some .int)) (by decide) rfl xa_ok (Nat.le_of_ble_eq_true rfl) ?_
  intro p e s m below meth c ls hx hb hr hlocks hml hown hts hK hP hD hS hl
  have hl : lv_has ls 4 [(0, .ref (ad 29)), (1, .int a1)] := hl
  have hown : s.vm.findClass R_Mo = some m.cls := hown
  have hv := v0 σ0 τ0 a1 hpre
  unfold s_Mo_travelTo_0 at hv
  refine lv_aload_n hx hb d_Mo_travelTo_0 rfl (lv_at hl 0 rfl) ?_
  refine va_get (D := D) (ci := 7) (v := .ref (ad 43)) (C := R_Mo) (T := F_Mo) (N := 24) hx hb hts iw_Mo hown hK hP 29 rfl rfl 19 (by decide) (hts _ t_w312) (fun _ h9 => h9) rfl d_Mo_travelTo_1 ?_
  refine lv_iload_n hx hb d_Mo_travelTo_4 rfl (lv_at hl 1 rfl) ?_
  obtain ⟨hi, hv⟩ := hv
  refine va_iald hx hb hK hP 43 0 rfl rfl hi d_Mo_travelTo_5 ?_
  refine lv_topi (fun y6 ey6 => ?_)
  replace hv := hv y6 ey6
  refine lv_istore_n (lv' := [(2, .int y6), (0, .ref (ad 29)), (1, .int a1)]) hx hb d_Mo_travelTo_6 rfl hl (by decide) rfl (fun ls hl => ?_)
  refine lv_iload_n hx hb d_Mo_travelTo_7 rfl (lv_at hl 0 rfl) ?_
  refine lv_aload_n hx hb d_Mo_travelTo_8 rfl (lv_at hl 1 rfl) ?_
  refine va_get (D := D) (ci := 7) (v := .int (σ0 29 1)) (C := R_Mo) (T := F_Mo) (N := 24) hx hb hts iw_Mo hown hK hP 29 rfl rfl 1 (by decide) (hts _ t_w248) (fun _ h9 => h9) rfl d_Mo_travelTo_9 ?_
  refine lv_icmp_ne (tgt := 17) hx hb d_Mo_travelTo_12 (by decide) (fun hc => ?_) (fun hc => ?_)
  · replace hv := hv.1 hc
    refine lv_aload_n hx hb d_Mo_travelTo_17 rfl (lv_at hl 1 rfl) ?_
    refine lv_iload_n hx hb d_Mo_travelTo_18 rfl (lv_at hl 0 rfl) ?_
    refine lv_iload_n hx hb d_Mo_travelTo_19 rfl (lv_at hl 2 rfl) ?_
    obtain ⟨hg, hv⟩ := hv
    refine gk_callVi (As := [.int y6, .int a1]) (rest := []) (b := ad 29) ⟨hx, hb, hml, hown, hts⟩ (h_Mo_before _ σ0 τ0 y6 a1 hg) (gk_cwV 2 hts t_w364 rfl rfl rfl (hts _ t_w361) (hts _ t_w362) (hts _ t_w363) (hts _ t_w252) (by decide +kernel) ⟨Nat.le_of_ble_eq_true rfl, Nat.le_of_ble_eq_true rfl⟩) hK hP hD hS (va_recv hK hP (ci := 7) (q0 := 29) rfl rfl) rfl hl.1 rfl (lv_room (Nat.le_of_ble_eq_true rfl)) d_Mo_travelTo_20 ⟨Nat.zero_le _, Nat.zero_le _⟩ ?_
    intro r20 s20 t20 H locs hw hP hD hS
    replace hv := hv r20 s20 t20 hw
    refine lv_istore_n (lv' := [(3, .int r20), (2, .int y6), (0, .ref (ad 29)), (1, .int a1)]) hx hb d_Mo_travelTo_23 rfl hl (by decide) rfl (fun ls hl => ?_)
    refine lv_aload_n hx hb d_Mo_travelTo_24 rfl (lv_at hl 2 rfl) ?_
    refine va_get (D := D) (ci := 7) (v := .ref (ad 42)) (C := R_Mo) (T := F_Mo) (N := 24) hx hb hts iw_Mo hown hK hP 29 rfl rfl 16 (by decide) (hts _ t_w276) (fun _ h9 => h9) rfl d_Mo_travelTo_25 ?_
    refine lv_iconst (v := 5) hx hb d_Mo_travelTo_28 (by decide) ?_
    refine lv_iload_n hx hb d_Mo_travelTo_29 rfl (lv_at hl 0 rfl) ?_
    refine lv_if_ge (tgt := 42) hx hb d_Mo_travelTo_30 (by decide) (fun hc => ?_) (fun hc => ?_)
    · replace hv := hv.1 hc
      refine lv_aload_n hx hb d_Mo_travelTo_42 rfl (lv_at hl 2 rfl) ?_
      refine va_get (D := D) (ci := 7) (v := .ref (ad 41)) (C := R_Mo) (T := F_Mo) (N := 24) hx hb hts iw_Mo hown hK hP 29 rfl rfl 15 (by decide) (hts _ t_w275) (fun _ h9 => h9) rfl d_Mo_travelTo_43 ?_
      refine lv_iload_n hx hb d_Mo_travelTo_46 rfl (lv_at hl 0 rfl) ?_
      obtain ⟨hi, hv⟩ := hv
      refine va_iald hx hb hK hP 41 0 rfl rfl hi d_Mo_travelTo_47 ?_
      refine lv_imul hx hb d_Mo_travelTo_48 ?_
      refine lv_aload_n hx hb d_Mo_travelTo_49 rfl (lv_at hl 2 rfl) ?_
      refine va_get (D := D) (ci := 7) (v := .ref (ad 41)) (C := R_Mo) (T := F_Mo) (N := 24) hx hb hts iw_Mo hown hK hP 29 rfl rfl 15 (by decide) (hts _ t_w275) (fun _ h9 => h9) rfl d_Mo_travelTo_50 ?_
      refine lv_iload_n hx hb d_Mo_travelTo_53 rfl (lv_at hl 3 rfl) ?_
      obtain ⟨hi, hv⟩ := hv
      refine va_iald hx hb hK hP 41 0 rfl rfl hi d_Mo_travelTo_54 ?_
      refine lv_iadd hx hb d_Mo_travelTo_55 ?_
      obtain ⟨hi, hv⟩ := hv
      refine va_iald hx hb hK hP 42 0 rfl rfl hi d_Mo_travelTo_56 ?_
      exact gk_iret hx hb hr hlocks hK hP hD hS hv d_Mo_travelTo_57
    · replace hv := hv.2 hc
      refine lv_aload_n hx hb d_Mo_travelTo_33 rfl (lv_at hl 2 rfl) ?_
      refine va_get (D := D) (ci := 7) (v := .ref (ad 33)) (C := R_Mo) (T := F_Mo) (N := 24) hx hb hts iw_Mo hown hK hP 29 rfl rfl 5 (by decide) (hts _ t_w267) (fun _ h9 => h9) rfl d_Mo_travelTo_34 ?_
      refine lv_iload_n hx hb d_Mo_travelTo_37 rfl (lv_at hl 1 rfl) ?_
      obtain ⟨hi, hv⟩ := hv
      refine va_iald hx hb hK hP 33 0 rfl rfl hi d_Mo_travelTo_38 ?_
      refine lv_goto (tgt := 48) hx hb d_Mo_travelTo_39 (by decide) ?_
      refine lv_imul hx hb d_Mo_travelTo_48 ?_
      refine lv_aload_n hx hb d_Mo_travelTo_49 rfl (lv_at hl 2 rfl) ?_
      refine va_get (D := D) (ci := 7) (v := .ref (ad 41)) (C := R_Mo) (T := F_Mo) (N := 24) hx hb hts iw_Mo hown hK hP 29 rfl rfl 15 (by decide) (hts _ t_w275) (fun _ h9 => h9) rfl d_Mo_travelTo_50 ?_
      refine lv_iload_n hx hb d_Mo_travelTo_53 rfl (lv_at hl 3 rfl) ?_
      obtain ⟨hi, hv⟩ := hv
      refine va_iald hx hb hK hP 41 0 rfl rfl hi d_Mo_travelTo_54 ?_
      refine lv_iadd hx hb d_Mo_travelTo_55 ?_
      obtain ⟨hi, hv⟩ := hv
      refine va_iald hx hb hK hP 42 0 rfl rfl hi d_Mo_travelTo_56 ?_
      exact gk_iret hx hb hr hlocks hK hP hD hS hv d_Mo_travelTo_57
  · replace hv := hv.2 hc
    refine lv_iconst (v := (-1)) hx hb d_Mo_travelTo_15 (by decide) ?_
    exact gk_iret hx hb hr hlocks hK hP hD hS hv d_Mo_travelTo_16
theorem d_Mo_why_0 : decode b_Mo_why 0 = .ok (.aload_n 0, 1) := by decide +kernel
theorem d_Mo_why_1 : decode b_Mo_why 1 = .ok (.getfield 49, 3) := by decide +kernel
theorem d_Mo_why_4 : decode b_Mo_why 4 = .ok (.iload_n 1, 1) := by decide +kernel
theorem d_Mo_why_5 : decode b_Mo_why 5 = .ok (.iaload, 1) := by decide +kernel
theorem d_Mo_why_6 : decode b_Mo_why 6 = .ok (.aload_n 0, 1) := by decide +kernel
theorem d_Mo_why_7 : decode b_Mo_why 7 = .ok (.getfield 65, 3) := by decide +kernel
theorem d_Mo_why_10 : decode b_Mo_why 10 = .ok (.if_icmp .ge 5, 3) := by decide +kernel
theorem d_Mo_why_13 : decode b_Mo_why 13 = .ok (.iconst 0, 1) := by decide +kernel
theorem d_Mo_why_14 : decode b_Mo_why 14 = .ok (.ireturn, 1) := by decide +kernel
theorem d_Mo_why_15 : decode b_Mo_why 15 = .ok (.iconst 0, 1) := by decide +kernel
theorem d_Mo_why_16 : decode b_Mo_why 16 = .ok (.istore_n 2, 1) := by decide +kernel
theorem d_Mo_why_17 : decode b_Mo_why 17 = .ok (.iconst 0, 1) := by decide +kernel
theorem d_Mo_why_18 : decode b_Mo_why 18 = .ok (.istore_n 3, 1) := by decide +kernel
theorem d_Mo_why_19 : decode b_Mo_why 19 = .ok (.iconst 0, 1) := by decide +kernel
theorem d_Mo_why_20 : decode b_Mo_why 20 = .ok (.istore 4, 2) := by decide +kernel
theorem d_Mo_why_22 : decode b_Mo_why 22 = .ok (.iload 4, 2) := by decide +kernel
theorem d_Mo_why_24 : decode b_Mo_why 24 = .ok (.aload_n 0, 1) := by decide +kernel
theorem d_Mo_why_25 : decode b_Mo_why 25 = .ok (.getfield 65, 3) := by decide +kernel
theorem d_Mo_why_28 : decode b_Mo_why 28 = .ok (.if_icmp .ge 77, 3) := by decide +kernel
theorem d_Mo_why_31 : decode b_Mo_why 31 = .ok (.iload_n 2, 1) := by decide +kernel
theorem d_Mo_why_32 : decode b_Mo_why 32 = .ok (.ifCond .ne 28, 3) := by decide +kernel
theorem d_Mo_why_35 : decode b_Mo_why 35 = .ok (.aload_n 0, 1) := by decide +kernel
theorem d_Mo_why_36 : decode b_Mo_why 36 = .ok (.iload 4, 2) := by decide +kernel
theorem d_Mo_why_38 : decode b_Mo_why 38 = .ok (.invokevirtual 114, 3) := by decide +kernel
theorem d_Mo_why_41 : decode b_Mo_why 41 = .ok (.ifCond .ne 23, 3) := by decide +kernel
theorem d_Mo_why_44 : decode b_Mo_why 44 = .ok (.aload_n 0, 1) := by decide +kernel
theorem d_Mo_why_45 : decode b_Mo_why 45 = .ok (.getfield 7, 3) := by decide +kernel
theorem d_Mo_why_48 : decode b_Mo_why 48 = .ok (.iload 4, 2) := by decide +kernel
theorem d_Mo_why_50 : decode b_Mo_why 50 = .ok (.iaload, 1) := by decide +kernel
theorem d_Mo_why_51 : decode b_Mo_why 51 = .ok (.aload_n 0, 1) := by decide +kernel
theorem d_Mo_why_52 : decode b_Mo_why 52 = .ok (.getfield 31, 3) := by decide +kernel
theorem d_Mo_why_55 : decode b_Mo_why 55 = .ok (.iload_n 1, 1) := by decide +kernel
theorem d_Mo_why_56 : decode b_Mo_why 56 = .ok (.iaload, 1) := by decide +kernel
theorem d_Mo_why_57 : decode b_Mo_why 57 = .ok (.if_icmp .lt 7, 3) := by decide +kernel
theorem d_Mo_why_60 : decode b_Mo_why 60 = .ok (.iconst 1, 1) := by decide +kernel
theorem d_Mo_why_61 : decode b_Mo_why 61 = .ok (.goto 4, 3) := by decide +kernel
theorem d_Mo_why_64 : decode b_Mo_why 64 = .ok (.iconst 0, 1) := by decide +kernel
theorem d_Mo_why_65 : decode b_Mo_why 65 = .ok (.istore_n 2, 1) := by decide +kernel
theorem d_Mo_why_66 : decode b_Mo_why 66 = .ok (.iload_n 3, 1) := by decide +kernel
theorem d_Mo_why_67 : decode b_Mo_why 67 = .ok (.ifCond .ne 26, 3) := by decide +kernel
theorem d_Mo_why_70 : decode b_Mo_why 70 = .ok (.aload_n 0, 1) := by decide +kernel
theorem d_Mo_why_71 : decode b_Mo_why 71 = .ok (.iload 4, 2) := by decide +kernel
theorem d_Mo_why_73 : decode b_Mo_why 73 = .ok (.invokevirtual 114, 3) := by decide +kernel
theorem d_Mo_why_76 : decode b_Mo_why 76 = .ok (.ifCond .ne 21, 3) := by decide +kernel
theorem d_Mo_why_79 : decode b_Mo_why 79 = .ok (.aload_n 0, 1) := by decide +kernel
theorem d_Mo_why_80 : decode b_Mo_why 80 = .ok (.iload 4, 2) := by decide +kernel
theorem d_Mo_why_82 : decode b_Mo_why 82 = .ok (.iconst 1, 1) := by decide +kernel
theorem d_Mo_why_83 : decode b_Mo_why 83 = .ok (.iload_n 1, 1) := by decide +kernel
theorem d_Mo_why_84 : decode b_Mo_why 84 = .ok (.ishl, 1) := by decide +kernel
theorem d_Mo_why_85 : decode b_Mo_why 85 = .ok (.invokevirtual 117, 3) := by decide +kernel
theorem d_Mo_why_88 : decode b_Mo_why 88 = .ok (.ldc 104, 2) := by decide +kernel
theorem d_Mo_why_90 : decode b_Mo_why 90 = .ok (.if_icmp .ge 7, 3) := by decide +kernel
theorem d_Mo_why_93 : decode b_Mo_why 93 = .ok (.iconst 1, 1) := by decide +kernel
theorem d_Mo_why_94 : decode b_Mo_why 94 = .ok (.goto 4, 3) := by decide +kernel
theorem d_Mo_why_97 : decode b_Mo_why 97 = .ok (.iconst 0, 1) := by decide +kernel
theorem d_Mo_why_98 : decode b_Mo_why 98 = .ok (.istore_n 3, 1) := by decide +kernel
theorem d_Mo_why_99 : decode b_Mo_why 99 = .ok (.iinc 4 1, 3) := by decide +kernel
theorem d_Mo_why_102 : decode b_Mo_why 102 = .ok (.goto (-80), 3) := by decide +kernel
theorem d_Mo_why_105 : decode b_Mo_why 105 = .ok (.iload_n 2, 1) := by decide +kernel
theorem d_Mo_why_106 : decode b_Mo_why 106 = .ok (.ifCond .ne 7, 3) := by decide +kernel
theorem d_Mo_why_109 : decode b_Mo_why 109 = .ok (.iconst 1, 1) := by decide +kernel
theorem d_Mo_why_110 : decode b_Mo_why 110 = .ok (.goto 12, 3) := by decide +kernel
theorem d_Mo_why_113 : decode b_Mo_why 113 = .ok (.iload_n 3, 1) := by decide +kernel
theorem d_Mo_why_114 : decode b_Mo_why 114 = .ok (.ifCond .ne 7, 3) := by decide +kernel
theorem d_Mo_why_117 : decode b_Mo_why 117 = .ok (.iconst 2, 1) := by decide +kernel
theorem d_Mo_why_118 : decode b_Mo_why 118 = .ok (.goto 4, 3) := by decide +kernel
theorem d_Mo_why_121 : decode b_Mo_why 121 = .ok (.iconst 3, 1) := by decide +kernel
theorem d_Mo_why_122 : decode b_Mo_why 122 = .ok (.ireturn, 1) := by decide +kernel
def s_Mo_why_66 (P_Mo_isBarred : MI → ML → Int32 → Prop) (Q_Mo_isBarred : MI → ML → Int32 → Int32 → MI → ML → Prop) (P_Mo_cost : MI → ML → Int32 → Int32 → Prop) (Q_Mo_cost : MI → ML → Int32 → Int32 → Int32 → MI → ML → Prop) (σ : MI) (τ : ML) (x1 : Int32) (x2 : Int32) (x3 : Int32) (x4 : Int32) (K22 : Int32 → Int32 → Int32 → Int32 → MI → ML → Prop) (R : Int32 → MI → ML → Prop) : Prop :=
  (¬ x3 = 0 →
  (∀ y99 : Int32, y99 = x4 + 1 → (K22 x1 x2 1 y99 σ τ))) ∧
  (x3 = 0 →
  (P_Mo_isBarred σ τ x4 ∧ ∀ (r73 : Int32) (s73 : MI) (t73 : ML), Q_Mo_isBarred σ τ x4 r73 s73 t73 → ((¬ r73 = 0 →
    (∀ y99 : Int32, y99 = x4 + 1 → (K22 x1 x2 0 y99 s73 t73))) ∧
    (r73 = 0 →
    (P_Mo_cost s73 t73 x4 (1 <<< (x1 &&& 31)) ∧ ∀ (r85 : Int32) (s85 : MI) (t85 : ML), Q_Mo_cost s73 t73 x4 (1 <<< (x1 &&& 31)) r85 s85 t85 → ((1000000000 ≤ r85 →
      (∀ y99 : Int32, y99 = x4 + 1 → (K22 x1 x2 0 y99 s85 t85))) ∧
      (¬ 1000000000 ≤ r85 →
      (∀ y99 : Int32, y99 = x4 + 1 → (K22 x1 x2 1 y99 s85 t85)))))))))
def s_Mo_why_0 (P_Mo_isBarred : MI → ML → Int32 → Prop) (Q_Mo_isBarred : MI → ML → Int32 → Int32 → MI → ML → Prop) (P_Mo_cost : MI → ML → Int32 → Int32 → Prop) (Q_Mo_cost : MI → ML → Int32 → Int32 → Int32 → MI → ML → Prop) (σ : MI) (τ : ML) (a1 : Int32) (K22 : Int32 → Int32 → Int32 → Int32 → MI → ML → Prop) (R : Int32 → MI → ML → Prop) : Prop :=
  vp_in a1 7 ∧ (((σ 29 1) ≤ (σ 43 (Int32.toNatClampNeg a1)) →
  (K22 a1 0 0 0 σ τ)) ∧
  (¬ (σ 29 1) ≤ (σ 43 (Int32.toNatClampNeg a1)) →
  (R 0 σ τ)))
def s_Mo_why_22 (P_Mo_isBarred : MI → ML → Int32 → Prop) (Q_Mo_isBarred : MI → ML → Int32 → Int32 → MI → ML → Prop) (P_Mo_cost : MI → ML → Int32 → Int32 → Prop) (Q_Mo_cost : MI → ML → Int32 → Int32 → Int32 → MI → ML → Prop) (σ : MI) (τ : ML) (x1 : Int32) (x2 : Int32) (x3 : Int32) (x4 : Int32) (K22 : Int32 → Int32 → Int32 → Int32 → MI → ML → Prop) (R : Int32 → MI → ML → Prop) : Prop :=
  ((σ 29 1) ≤ x4 →
  ((¬ x2 = 0 →
    ((¬ x3 = 0 →
      (R 3 σ τ)) ∧
      (x3 = 0 →
      (R 2 σ τ)))) ∧
    (x2 = 0 →
    (R 1 σ τ)))) ∧
  (¬ (σ 29 1) ≤ x4 →
  ((¬ x2 = 0 →
    (s_Mo_why_66 P_Mo_isBarred Q_Mo_isBarred P_Mo_cost Q_Mo_cost σ τ x1 1 x3 x4 K22 R)) ∧
    (x2 = 0 →
    (P_Mo_isBarred σ τ x4 ∧ ∀ (r38 : Int32) (s38 : MI) (t38 : ML), Q_Mo_isBarred σ τ x4 r38 s38 t38 → ((¬ r38 = 0 →
      (s_Mo_why_66 P_Mo_isBarred Q_Mo_isBarred P_Mo_cost Q_Mo_cost s38 t38 x1 0 x3 x4 K22 R)) ∧
      (r38 = 0 →
      (vp_in x4 4 ∧ (vp_in x1 7 ∧ (((s38 30 (Int32.toNatClampNeg x4)) < (s38 37 (Int32.toNatClampNeg x1)) →
        (s_Mo_why_66 P_Mo_isBarred Q_Mo_isBarred P_Mo_cost Q_Mo_cost s38 t38 x1 0 x3 x4 K22 R)) ∧
        (¬ (s38 30 (Int32.toNatClampNeg x4)) < (s38 37 (Int32.toNatClampNeg x1)) →
        (s_Mo_why_66 P_Mo_isBarred Q_Mo_isBarred P_Mo_cost Q_Mo_cost s38 t38 x1 1 x3 x4 K22 R)))))))))))
set_option maxHeartbeats 4000000 in
set_option maxRecDepth 100000 in
theorem k_Mo_why (l : Launch) (D : va_G) (ad : Nat → Nat) (ci cl : ClassId)
    (pre : MI → ML → Int32 → Prop) (post : MI → ML → Int32 → Int32 → MI → ML → Prop) (P_Mo_isBarred : MI → ML → Int32 → Prop) (Q_Mo_isBarred : MI → ML → Int32 → Int32 → MI → ML → Prop) (P_Mo_cost : MI → ML → Int32 → Int32 → Prop) (Q_Mo_cost : MI → ML → Int32 → Int32 → Int32 → MI → ML → Prop)
    (h_Mo_isBarred : ∀ (sz : Nat) (σ : MI) (τ : ML) (b0 : Int32), P_Mo_isBarred σ τ b0 → gMi l D (xw ad ci cl) (xt ci cl) (xa ad) y_Mo_isBarred w_Mo_isBarred rm_Mo_isBarred [.ref (ad 29), .int b0] sz σ τ (Q_Mo_isBarred σ τ b0))
    (h_Mo_cost : ∀ (sz : Nat) (σ : MI) (τ : ML) (b0 : Int32) (b1 : Int32), P_Mo_cost σ τ b0 b1 → gMi l D (xw ad ci cl) (xt ci cl) (xa ad) y_Mo_cost w_Mo_cost rm_Mo_cost [.ref (ad 29), .int b0, .int b1] sz σ τ (Q_Mo_cost σ τ b0 b1))
    (I22 : MI → ML → Int32 → Int32 → Int32 → Int32 → Int32 → MI → ML → Prop) (m22 : MI → ML → Int32 → Int32 → Int32 → Int32 → Int32 → MI → ML → Nat)
    (v0 : ∀ (σ0 : MI) (τ0 : ML) (a1 : Int32), pre σ0 τ0 a1 → s_Mo_why_0 P_Mo_isBarred Q_Mo_isBarred P_Mo_cost Q_Mo_cost σ0 τ0 a1 (fun z0 z1 z2 z3 σ9 τ9 => I22 σ0 τ0 a1 z0 z1 z2 z3 σ9 τ9) (post σ0 τ0 a1))
    (v22 : ∀ (σ0 : MI) (τ0 : ML) (a1 : Int32) (x1 : Int32) (x2 : Int32) (x3 : Int32) (x4 : Int32) (σ : MI) (τ : ML), I22 σ0 τ0 a1 x1 x2 x3 x4 σ τ → s_Mo_why_22 P_Mo_isBarred Q_Mo_isBarred P_Mo_cost Q_Mo_cost σ τ x1 x2 x3 x4 (fun z0 z1 z2 z3 σ9 τ9 => I22 σ0 τ0 a1 z0 z1 z2 z3 σ9 τ9 ∧ m22 σ0 τ0 a1 z0 z1 z2 z3 σ9 τ9 < m22 σ0 τ0 a1 x1 x2 x3 x4 σ τ) (post σ0 τ0 a1)) :
    ∀ (sz : Nat) (σ0 : MI) (τ0 : ML) (a1 : Int32), pre σ0 τ0 a1 → gMi l D (xw ad ci cl) (xt ci cl) (xa ad) y_Mo_why w_Mo_why rm_Mo_why [.ref (ad 29), .int a1] sz σ0 τ0 (post σ0 τ0 a1) := by
  intro sz σ0 τ0 a1 hpre
  refine gk_ofWi (cc := b_Mo_why) (maxL := 5) (ret := (some .int)) (by decide) rfl xa_ok (Nat.le_of_ble_eq_true rfl) ?_
  intro p e s m below meth c ls hx hb hr hlocks hml hown hts hK hP hD hS hl
  have hl : lv_has ls 5 [(0, .ref (ad 29)), (1, .int a1)] := hl
  have hown : s.vm.findClass R_Mo = some m.cls := hown
  have hL : ∀ n : Nat, (∀ (x1 : Int32) (x2 : Int32) (x3 : Int32) (x4 : Int32) (σ : MI) (τ : ML) (H : Heap) (locs : List Loc) (ls : Array Slot), m22 σ0 τ0 a1 x1 x2 x3 x4 σ τ < n → I22 σ0 τ0 a1 x1 x2 x3 x4 σ τ → va_P D classes ((xw ad ci cl) σ τ) H → va_D (gA (xa ad) s.heap.size) ((xw ad ci cl) σ τ) → va_S (gA (xa ad) s.heap.size) s.heap H locs → lv_has ls 5 [(0, .ref (ad 29)), (1, .int x1), (2, .int x2), (3, .int x3), (4, .int x4)] → W p l e rm_Mo_why s m [.ref (ad 29), .int a1].toArray below meth c H locs 0 0 (gQi D (xw ad ci cl) (xt ci cl) (xa ad) below [.ref (ad 29), .int a1] s (post σ0 τ0 a1)) (F0 m 22 ls [])) := by
    intro n
    induction n with
    | zero => exact fun _ _ _ _ _ _ _ _ _ hn => absurd hn (Nat.not_lt_zero _)
    | succ n ih =>
      · intro x1 x2 x3 x4 σ τ H locs ls hn hI hP hD hS hl
        have hv := v22 σ0 τ0 a1 x1 x2 x3 x4 σ τ hI
        unfold s_Mo_why_22 at hv
        have j66 : ∀ (w1 : Int32) (w2 : Int32) (w3 : Int32) (w4 : Int32) (σ1 : MI) (τ1 : ML) (H : Heap) (locs : List Loc) (ls : Array Slot), s_Mo_why_66 P_Mo_isBarred Q_Mo_isBarred P_Mo_cost Q_Mo_cost σ1 τ1 w1 w2 w3 w4 (fun z0 z1 z2 z3 σ9 τ9 => I22 σ0 τ0 a1 z0 z1 z2 z3 σ9 τ9 ∧ m22 σ0 τ0 a1 z0 z1 z2 z3 σ9 τ9 < m22 σ0 τ0 a1 x1 x2 x3 x4 σ τ) (post σ0 τ0 a1) → va_P D classes ((xw ad ci cl) σ1 τ1) H → va_D (gA (xa ad) s.heap.size) ((xw ad ci cl) σ1 τ1) → va_S (gA (xa ad) s.heap.size) s.heap H locs → lv_has ls 5 [(0, .ref (ad 29)), (1, .int w1), (2, .int w2), (3, .int w3), (4, .int w4)] → W p l e rm_Mo_why s m [.ref (ad 29), .int a1].toArray below meth c H locs 0 0 (gQi D (xw ad ci cl) (xt ci cl) (xa ad) below [.ref (ad 29), .int a1] s (post σ0 τ0 a1)) (F0 m 66 ls []) := by
          intro w1 w2 w3 w4 σ1 τ1 H locs ls hv hP hD hS hl
          unfold s_Mo_why_66 at hv
          refine lv_iload_n hx hb d_Mo_why_66 rfl (lv_at hl 3 rfl) ?_
          refine lv_if_ne (tgt := 93) hx hb d_Mo_why_67 (by decide) (fun hc => ?_) (fun hc => ?_)
          · replace hv := hv.1 hc
            refine lv_iconst (v := 1) hx hb d_Mo_why_93 (by decide) ?_
            refine lv_goto (tgt := 98) hx hb d_Mo_why_94 (by decide) ?_
            refine lv_istore_n (lv' := [(3, .int 1), (0, .ref (ad 29)), (1, .int w1), (2, .int w2), (4, .int w4)]) hx hb d_Mo_why_98 rfl hl (by decide) rfl (fun ls hl => ?_)
            obtain ⟨y99, ey99⟩ : ∃ z : Int32, z = w4 + 1 := ⟨_, rfl⟩
            replace hv := hv y99 ey99
            refine lv_iinc (v := y99) (lv' := [(4, .int y99), (3, .int 1), (0, .ref (ad 29)), (1, .int w1), (2, .int w2)]) hx hb d_Mo_why_99 hl (k := 4) rfl (by rw [ey99]; rfl) (by decide) rfl (fun ls hl => ?_)
            refine lv_goto (tgt := 22) hx hb d_Mo_why_102 (by decide) ?_
            obtain ⟨hI, hm⟩ := hv
            exact ih w1 w2 1 y99 σ1 τ1 _ _ _ (Nat.lt_of_lt_of_le hm (Nat.le_of_lt_succ hn)) hI hP hD hS (lv_sub hl [2, 3, 4, 1, 0] rfl)
          · replace hv := hv.2 hc
            refine lv_aload_n hx hb d_Mo_why_70 rfl (lv_at hl 0 rfl) ?_
            refine lv_iload hx hb d_Mo_why_71 (lv_at hl 4 rfl) ?_
            obtain ⟨hg, hv⟩ := hv
            refine gk_callVi (As := [.int w4]) (rest := []) (b := ad 29) ⟨hx, hb, hml, hown, hts⟩ (h_Mo_isBarred _ σ1 τ1 w4 hg) (gk_cwV 1 hts t_w324 rfl rfl rfl (hts _ t_w321) (hts _ t_w322) (hts _ t_w323) (hts _ t_w252) (by decide +kernel) ⟨Nat.le_of_ble_eq_true rfl, Nat.le_of_ble_eq_true rfl⟩) hK hP hD hS (va_recv hK hP (ci := 7) (q0 := 29) rfl rfl) rfl hl.1 rfl (lv_room (Nat.le_of_ble_eq_true rfl)) d_Mo_why_73 ⟨Nat.zero_le _, Nat.zero_le _⟩ ?_
            intro r73 s73 t73 H locs hw hP hD hS
            replace hv := hv r73 s73 t73 hw
            refine lv_if_ne (tgt := 97) hx hb d_Mo_why_76 (by decide) (fun hc => ?_) (fun hc => ?_)
            · replace hv := hv.1 hc
              refine lv_iconst (v := 0) hx hb d_Mo_why_97 (by decide) ?_
              refine lv_istore_n (lv' := [(3, .int 0), (0, .ref (ad 29)), (1, .int w1), (2, .int w2), (4, .int w4)]) hx hb d_Mo_why_98 rfl hl (by decide) rfl (fun ls hl => ?_)
              obtain ⟨y99, ey99⟩ : ∃ z : Int32, z = w4 + 1 := ⟨_, rfl⟩
              replace hv := hv y99 ey99
              refine lv_iinc (v := y99) (lv' := [(4, .int y99), (3, .int 0), (0, .ref (ad 29)), (1, .int w1), (2, .int w2)]) hx hb d_Mo_why_99 hl (k := 4) rfl (by rw [ey99]; rfl) (by decide) rfl (fun ls hl => ?_)
              refine lv_goto (tgt := 22) hx hb d_Mo_why_102 (by decide) ?_
              obtain ⟨hI, hm⟩ := hv
              exact ih w1 w2 0 y99 s73 t73 _ _ _ (Nat.lt_of_lt_of_le hm (Nat.le_of_lt_succ hn)) hI hP hD hS (lv_sub hl [2, 3, 4, 1, 0] rfl)
            · replace hv := hv.2 hc
              refine lv_aload_n hx hb d_Mo_why_79 rfl (lv_at hl 0 rfl) ?_
              refine lv_iload hx hb d_Mo_why_80 (lv_at hl 4 rfl) ?_
              refine lv_iconst (v := 1) hx hb d_Mo_why_82 (by decide) ?_
              refine lv_iload_n hx hb d_Mo_why_83 rfl (lv_at hl 1 rfl) ?_
              refine lv_ishl hx hb d_Mo_why_84 ?_
              obtain ⟨hg, hv⟩ := hv
              refine gk_callVi (As := [.int w4, .int (1 <<< (w1 &&& 31))]) (rest := []) (b := ad 29) ⟨hx, hb, hml, hown, hts⟩ (h_Mo_cost _ s73 t73 w4 (1 <<< (w1 &&& 31)) hg) (gk_cwV 2 hts t_w328 rfl rfl rfl (hts _ t_w325) (hts _ t_w326) (hts _ t_w327) (hts _ t_w252) (by decide +kernel) ⟨Nat.le_of_ble_eq_true rfl, Nat.le_of_ble_eq_true rfl⟩) hK hP hD hS (va_recv hK hP (ci := 7) (q0 := 29) rfl rfl) rfl hl.1 rfl (lv_room (Nat.le_of_ble_eq_true rfl)) d_Mo_why_85 ⟨Nat.zero_le _, Nat.zero_le _⟩ ?_
              intro r85 s85 t85 H locs hw hP hD hS
              replace hv := hv r85 s85 t85 hw
              refine lv_ldc (v := 1000000000) hx hb hown (hts _ t_w287) d_Mo_why_88 ?_
              refine lv_icmp_ge (tgt := 97) hx hb d_Mo_why_90 (by decide) (fun hc => ?_) (fun hc => ?_)
              · replace hv := hv.1 hc
                refine lv_iconst (v := 0) hx hb d_Mo_why_97 (by decide) ?_
                refine lv_istore_n (lv' := [(3, .int 0), (0, .ref (ad 29)), (1, .int w1), (2, .int w2), (4, .int w4)]) hx hb d_Mo_why_98 rfl hl (by decide) rfl (fun ls hl => ?_)
                obtain ⟨y99, ey99⟩ : ∃ z : Int32, z = w4 + 1 := ⟨_, rfl⟩
                replace hv := hv y99 ey99
                refine lv_iinc (v := y99) (lv' := [(4, .int y99), (3, .int 0), (0, .ref (ad 29)), (1, .int w1), (2, .int w2)]) hx hb d_Mo_why_99 hl (k := 4) rfl (by rw [ey99]; rfl) (by decide) rfl (fun ls hl => ?_)
                refine lv_goto (tgt := 22) hx hb d_Mo_why_102 (by decide) ?_
                obtain ⟨hI, hm⟩ := hv
                exact ih w1 w2 0 y99 s85 t85 _ _ _ (Nat.lt_of_lt_of_le hm (Nat.le_of_lt_succ hn)) hI hP hD hS (lv_sub hl [2, 3, 4, 1, 0] rfl)
              · replace hv := hv.2 hc
                refine lv_iconst (v := 1) hx hb d_Mo_why_93 (by decide) ?_
                refine lv_goto (tgt := 98) hx hb d_Mo_why_94 (by decide) ?_
                refine lv_istore_n (lv' := [(3, .int 1), (0, .ref (ad 29)), (1, .int w1), (2, .int w2), (4, .int w4)]) hx hb d_Mo_why_98 rfl hl (by decide) rfl (fun ls hl => ?_)
                obtain ⟨y99, ey99⟩ : ∃ z : Int32, z = w4 + 1 := ⟨_, rfl⟩
                replace hv := hv y99 ey99
                refine lv_iinc (v := y99) (lv' := [(4, .int y99), (3, .int 1), (0, .ref (ad 29)), (1, .int w1), (2, .int w2)]) hx hb d_Mo_why_99 hl (k := 4) rfl (by rw [ey99]; rfl) (by decide) rfl (fun ls hl => ?_)
                refine lv_goto (tgt := 22) hx hb d_Mo_why_102 (by decide) ?_
                obtain ⟨hI, hm⟩ := hv
                exact ih w1 w2 1 y99 s85 t85 _ _ _ (Nat.lt_of_lt_of_le hm (Nat.le_of_lt_succ hn)) hI hP hD hS (lv_sub hl [2, 3, 4, 1, 0] rfl)
        refine lv_iload hx hb d_Mo_why_22 (lv_at hl 4 rfl) ?_
        refine lv_aload_n hx hb d_Mo_why_24 rfl (lv_at hl 0 rfl) ?_
        refine va_get (D := D) (ci := 7) (v := .int (σ 29 1)) (C := R_Mo) (T := F_Mo) (N := 24) hx hb hts iw_Mo hown hK hP 29 rfl rfl 1 (by decide) (hts _ t_w248) (fun _ h9 => h9) rfl d_Mo_why_25 ?_
        refine lv_icmp_ge (tgt := 105) hx hb d_Mo_why_28 (by decide) (fun hc => ?_) (fun hc => ?_)
        · replace hv := hv.1 hc
          refine lv_iload_n hx hb d_Mo_why_105 rfl (lv_at hl 2 rfl) ?_
          refine lv_if_ne (tgt := 113) hx hb d_Mo_why_106 (by decide) (fun hc => ?_) (fun hc => ?_)
          · replace hv := hv.1 hc
            refine lv_iload_n hx hb d_Mo_why_113 rfl (lv_at hl 3 rfl) ?_
            refine lv_if_ne (tgt := 121) hx hb d_Mo_why_114 (by decide) (fun hc => ?_) (fun hc => ?_)
            · replace hv := hv.1 hc
              refine lv_iconst (v := 3) hx hb d_Mo_why_121 (by decide) ?_
              exact gk_iret hx hb hr hlocks hK hP hD hS hv d_Mo_why_122
            · replace hv := hv.2 hc
              refine lv_iconst (v := 2) hx hb d_Mo_why_117 (by decide) ?_
              refine lv_goto (tgt := 122) hx hb d_Mo_why_118 (by decide) ?_
              exact gk_iret hx hb hr hlocks hK hP hD hS hv d_Mo_why_122
          · replace hv := hv.2 hc
            refine lv_iconst (v := 1) hx hb d_Mo_why_109 (by decide) ?_
            refine lv_goto (tgt := 122) hx hb d_Mo_why_110 (by decide) ?_
            exact gk_iret hx hb hr hlocks hK hP hD hS hv d_Mo_why_122
        · replace hv := hv.2 hc
          refine lv_iload_n hx hb d_Mo_why_31 rfl (lv_at hl 2 rfl) ?_
          refine lv_if_ne (tgt := 60) hx hb d_Mo_why_32 (by decide) (fun hc => ?_) (fun hc => ?_)
          · replace hv := hv.1 hc
            refine lv_iconst (v := 1) hx hb d_Mo_why_60 (by decide) ?_
            refine lv_goto (tgt := 65) hx hb d_Mo_why_61 (by decide) ?_
            refine lv_istore_n (lv' := [(2, .int 1), (0, .ref (ad 29)), (1, .int x1), (3, .int x3), (4, .int x4)]) hx hb d_Mo_why_65 rfl hl (by decide) rfl (fun ls hl => ?_)
            exact j66 x1 1 x3 x4 σ τ _ _ _ hv hP hD hS (lv_sub hl [1, 2, 0, 3, 4] rfl)
          · replace hv := hv.2 hc
            refine lv_aload_n hx hb d_Mo_why_35 rfl (lv_at hl 0 rfl) ?_
            refine lv_iload hx hb d_Mo_why_36 (lv_at hl 4 rfl) ?_
            obtain ⟨hg, hv⟩ := hv
            refine gk_callVi (As := [.int x4]) (rest := []) (b := ad 29) ⟨hx, hb, hml, hown, hts⟩ (h_Mo_isBarred _ σ τ x4 hg) (gk_cwV 1 hts t_w324 rfl rfl rfl (hts _ t_w321) (hts _ t_w322) (hts _ t_w323) (hts _ t_w252) (by decide +kernel) ⟨Nat.le_of_ble_eq_true rfl, Nat.le_of_ble_eq_true rfl⟩) hK hP hD hS (va_recv hK hP (ci := 7) (q0 := 29) rfl rfl) rfl hl.1 rfl (lv_room (Nat.le_of_ble_eq_true rfl)) d_Mo_why_38 ⟨Nat.zero_le _, Nat.zero_le _⟩ ?_
            intro r38 s38 t38 H locs hw hP hD hS
            replace hv := hv r38 s38 t38 hw
            refine lv_if_ne (tgt := 64) hx hb d_Mo_why_41 (by decide) (fun hc => ?_) (fun hc => ?_)
            · replace hv := hv.1 hc
              refine lv_iconst (v := 0) hx hb d_Mo_why_64 (by decide) ?_
              refine lv_istore_n (lv' := [(2, .int 0), (0, .ref (ad 29)), (1, .int x1), (3, .int x3), (4, .int x4)]) hx hb d_Mo_why_65 rfl hl (by decide) rfl (fun ls hl => ?_)
              exact j66 x1 0 x3 x4 s38 t38 _ _ _ hv hP hD hS (lv_sub hl [1, 2, 0, 3, 4] rfl)
            · replace hv := hv.2 hc
              refine lv_aload_n hx hb d_Mo_why_44 rfl (lv_at hl 0 rfl) ?_
              refine va_get (D := D) (ci := 7) (v := .ref (ad 30)) (C := R_Mo) (T := F_Mo) (N := 24) hx hb hts iw_Mo hown hK hP 29 rfl rfl 2 (by decide) (hts _ t_w264) (fun _ h9 => h9) rfl d_Mo_why_45 ?_
              refine lv_iload hx hb d_Mo_why_48 (lv_at hl 4 rfl) ?_
              obtain ⟨hi, hv⟩ := hv
              refine va_iald hx hb hK hP 30 0 rfl rfl hi d_Mo_why_50 ?_
              refine lv_aload_n hx hb d_Mo_why_51 rfl (lv_at hl 0 rfl) ?_
              refine va_get (D := D) (ci := 7) (v := .ref (ad 37)) (C := R_Mo) (T := F_Mo) (N := 24) hx hb hts iw_Mo hown hK hP 29 rfl rfl 11 (by decide) (hts _ t_w271) (fun _ h9 => h9) rfl d_Mo_why_52 ?_
              refine lv_iload_n hx hb d_Mo_why_55 rfl (lv_at hl 1 rfl) ?_
              obtain ⟨hi, hv⟩ := hv
              refine va_iald hx hb hK hP 37 0 rfl rfl hi d_Mo_why_56 ?_
              refine lv_icmp_lt (tgt := 64) hx hb d_Mo_why_57 (by decide) (fun hc => ?_) (fun hc => ?_)
              · replace hv := hv.1 hc
                refine lv_iconst (v := 0) hx hb d_Mo_why_64 (by decide) ?_
                refine lv_istore_n (lv' := [(2, .int 0), (0, .ref (ad 29)), (1, .int x1), (3, .int x3), (4, .int x4)]) hx hb d_Mo_why_65 rfl hl (by decide) rfl (fun ls hl => ?_)
                exact j66 x1 0 x3 x4 s38 t38 _ _ _ hv hP hD hS (lv_sub hl [1, 2, 0, 3, 4] rfl)
              · replace hv := hv.2 hc
                refine lv_iconst (v := 1) hx hb d_Mo_why_60 (by decide) ?_
                refine lv_goto (tgt := 65) hx hb d_Mo_why_61 (by decide) ?_
                refine lv_istore_n (lv' := [(2, .int 1), (0, .ref (ad 29)), (1, .int x1), (3, .int x3), (4, .int x4)]) hx hb d_Mo_why_65 rfl hl (by decide) rfl (fun ls hl => ?_)
                exact j66 x1 1 x3 x4 s38 t38 _ _ _ hv hP hD hS (lv_sub hl [1, 2, 0, 3, 4] rfl)
  have hv := v0 σ0 τ0 a1 hpre
  unfold s_Mo_why_0 at hv
  refine lv_aload_n hx hb d_Mo_why_0 rfl (lv_at hl 0 rfl) ?_
  refine va_get (D := D) (ci := 7) (v := .ref (ad 43)) (C := R_Mo) (T := F_Mo) (N := 24) hx hb hts iw_Mo hown hK hP 29 rfl rfl 19 (by decide) (hts _ t_w312) (fun _ h9 => h9) rfl d_Mo_why_1 ?_
  refine lv_iload_n hx hb d_Mo_why_4 rfl (lv_at hl 1 rfl) ?_
  obtain ⟨hi, hv⟩ := hv
  refine va_iald hx hb hK hP 43 0 rfl rfl hi d_Mo_why_5 ?_
  refine lv_aload_n hx hb d_Mo_why_6 rfl (lv_at hl 0 rfl) ?_
  refine va_get (D := D) (ci := 7) (v := .int (σ0 29 1)) (C := R_Mo) (T := F_Mo) (N := 24) hx hb hts iw_Mo hown hK hP 29 rfl rfl 1 (by decide) (hts _ t_w248) (fun _ h9 => h9) rfl d_Mo_why_7 ?_
  refine lv_icmp_ge (tgt := 15) hx hb d_Mo_why_10 (by decide) (fun hc => ?_) (fun hc => ?_)
  · replace hv := hv.1 hc
    refine lv_iconst (v := 0) hx hb d_Mo_why_15 (by decide) ?_
    refine lv_istore_n (lv' := [(2, .int 0), (0, .ref (ad 29)), (1, .int a1)]) hx hb d_Mo_why_16 rfl hl (by decide) rfl (fun ls hl => ?_)
    refine lv_iconst (v := 0) hx hb d_Mo_why_17 (by decide) ?_
    refine lv_istore_n (lv' := [(3, .int 0), (2, .int 0), (0, .ref (ad 29)), (1, .int a1)]) hx hb d_Mo_why_18 rfl hl (by decide) rfl (fun ls hl => ?_)
    refine lv_iconst (v := 0) hx hb d_Mo_why_19 (by decide) ?_
    refine lv_istore (lv' := [(4, .int 0), (3, .int 0), (2, .int 0), (0, .ref (ad 29)), (1, .int a1)]) hx hb d_Mo_why_20 hl (by decide) rfl (fun ls hl => ?_)
    exact (hL _) a1 0 0 0 σ0 τ0 _ _ _ (Nat.lt_succ_self _) hv hP hD hS (lv_sub hl [3, 4, 2, 1, 0] rfl)
  · replace hv := hv.2 hc
    refine lv_iconst (v := 0) hx hb d_Mo_why_13 (by decide) ?_
    exact gk_iret hx hb hr hlocks hK hP hD hS hv d_Mo_why_14
theorem d_Mo_of_0 : decode b_Mo_of 0 = .ok (.aload_n 0, 1) := by decide +kernel
theorem d_Mo_of_1 : decode b_Mo_of 1 = .ok (.aload_n 0, 1) := by decide +kernel
theorem d_Mo_of_2 : decode b_Mo_of 2 = .ok (.iload_n 1, 1) := by decide +kernel
theorem d_Mo_of_3 : decode b_Mo_of 3 = .ok (.invokevirtual 164, 3) := by decide +kernel
theorem d_Mo_of_6 : decode b_Mo_of 6 = .ok (.ifCond .eq 12, 3) := by decide +kernel
theorem d_Mo_of_9 : decode b_Mo_of 9 = .ok (.iload_n 2, 1) := by decide +kernel
theorem d_Mo_of_10 : decode b_Mo_of 10 = .ok (.iconst 0, 1) := by decide +kernel
theorem d_Mo_of_11 : decode b_Mo_of 11 = .ok (.iconst 4, 1) := by decide +kernel
theorem d_Mo_of_12 : decode b_Mo_of 12 = .ok (.invokestatic 71, 3) := by decide +kernel
theorem d_Mo_of_15 : decode b_Mo_of 15 = .ok (.ifCond .ne 7, 3) := by decide +kernel
theorem d_Mo_of_18 : decode b_Mo_of 18 = .ok (.iconst 1, 1) := by decide +kernel
theorem d_Mo_of_19 : decode b_Mo_of 19 = .ok (.goto 15, 3) := by decide +kernel
theorem d_Mo_of_22 : decode b_Mo_of 22 = .ok (.aload_n 0, 1) := by decide +kernel
theorem d_Mo_of_23 : decode b_Mo_of 23 = .ok (.getfield 87, 3) := by decide +kernel
theorem d_Mo_of_26 : decode b_Mo_of 26 = .ok (.ifCond .eq 7, 3) := by decide +kernel
theorem d_Mo_of_29 : decode b_Mo_of 29 = .ok (.iconst 0, 1) := by decide +kernel
theorem d_Mo_of_30 : decode b_Mo_of 30 = .ok (.goto 4, 3) := by decide +kernel
theorem d_Mo_of_33 : decode b_Mo_of 33 = .ok (.iconst 2, 1) := by decide +kernel
theorem d_Mo_of_34 : decode b_Mo_of 34 = .ok (.putfield 61, 3) := by decide +kernel
theorem d_Mo_of_37 : decode b_Mo_of 37 = .ok (.aload_n 0, 1) := by decide +kernel
theorem d_Mo_of_38 : decode b_Mo_of 38 = .ok (.getfield 61, 3) := by decide +kernel
theorem d_Mo_of_41 : decode b_Mo_of 41 = .ok (.ifCond .le 5, 3) := by decide +kernel
theorem d_Mo_of_44 : decode b_Mo_of 44 = .ok (.iconst 0, 1) := by decide +kernel
theorem d_Mo_of_45 : decode b_Mo_of 45 = .ok (.ireturn, 1) := by decide +kernel
theorem d_Mo_of_46 : decode b_Mo_of 46 = .ok (.aload_n 0, 1) := by decide +kernel
theorem d_Mo_of_47 : decode b_Mo_of 47 = .ok (.getfield 49, 3) := by decide +kernel
theorem d_Mo_of_50 : decode b_Mo_of 50 = .ok (.iload_n 1, 1) := by decide +kernel
theorem d_Mo_of_51 : decode b_Mo_of 51 = .ok (.iaload, 1) := by decide +kernel
theorem d_Mo_of_52 : decode b_Mo_of 52 = .ok (.aload_n 0, 1) := by decide +kernel
theorem d_Mo_of_53 : decode b_Mo_of 53 = .ok (.getfield 65, 3) := by decide +kernel
theorem d_Mo_of_56 : decode b_Mo_of 56 = .ok (.if_icmp .ge 25, 3) := by decide +kernel
theorem d_Mo_of_59 : decode b_Mo_of 59 = .ok (.aload_n 0, 1) := by decide +kernel
theorem d_Mo_of_60 : decode b_Mo_of 60 = .ok (.getfield 34, 3) := by decide +kernel
theorem d_Mo_of_63 : decode b_Mo_of 63 = .ok (.iload_n 1, 1) := by decide +kernel
theorem d_Mo_of_64 : decode b_Mo_of 64 = .ok (.iaload, 1) := by decide +kernel
theorem d_Mo_of_65 : decode b_Mo_of 65 = .ok (.ifCond .le 16, 3) := by decide +kernel
theorem d_Mo_of_68 : decode b_Mo_of 68 = .ok (.aload_n 0, 1) := by decide +kernel
theorem d_Mo_of_69 : decode b_Mo_of 69 = .ok (.getfield 52, 3) := by decide +kernel
theorem d_Mo_of_72 : decode b_Mo_of 72 = .ok (.iload_n 1, 1) := by decide +kernel
theorem d_Mo_of_73 : decode b_Mo_of 73 = .ok (.iaload, 1) := by decide +kernel
theorem d_Mo_of_74 : decode b_Mo_of 74 = .ok (.ifCond .ne 7, 3) := by decide +kernel
theorem d_Mo_of_77 : decode b_Mo_of 77 = .ok (.iconst 1, 1) := by decide +kernel
theorem d_Mo_of_78 : decode b_Mo_of 78 = .ok (.goto 4, 3) := by decide +kernel
theorem d_Mo_of_81 : decode b_Mo_of 81 = .ok (.iconst 0, 1) := by decide +kernel
theorem d_Mo_of_82 : decode b_Mo_of 82 = .ok (.istore_n 3, 1) := by decide +kernel
theorem d_Mo_of_83 : decode b_Mo_of 83 = .ok (.iload_n 2, 1) := by decide +kernel
theorem d_Mo_of_84 : decode b_Mo_of 84 = .ok (.tableswitch 79 0 3 #[32, 56, 62, 69], 32) := by decide +kernel
theorem d_Mo_of_116 : decode b_Mo_of 116 = .ok (.aload_n 0, 1) := by decide +kernel
theorem d_Mo_of_117 : decode b_Mo_of 117 = .ok (.getfield 49, 3) := by decide +kernel
theorem d_Mo_of_120 : decode b_Mo_of 120 = .ok (.iload_n 1, 1) := by decide +kernel
theorem d_Mo_of_121 : decode b_Mo_of 121 = .ok (.iaload, 1) := by decide +kernel
theorem d_Mo_of_122 : decode b_Mo_of 122 = .ok (.aload_n 0, 1) := by decide +kernel
theorem d_Mo_of_123 : decode b_Mo_of 123 = .ok (.getfield 65, 3) := by decide +kernel
theorem d_Mo_of_126 : decode b_Mo_of 126 = .ok (.if_icmp .ge 12, 3) := by decide +kernel
theorem d_Mo_of_129 : decode b_Mo_of 129 = .ok (.aload_n 0, 1) := by decide +kernel
theorem d_Mo_of_130 : decode b_Mo_of 130 = .ok (.getfield 49, 3) := by decide +kernel
theorem d_Mo_of_133 : decode b_Mo_of 133 = .ok (.iload_n 1, 1) := by decide +kernel
theorem d_Mo_of_134 : decode b_Mo_of 134 = .ok (.iaload, 1) := by decide +kernel
theorem d_Mo_of_135 : decode b_Mo_of 135 = .ok (.goto 4, 3) := by decide +kernel
theorem d_Mo_of_138 : decode b_Mo_of 138 = .ok (.iconst (-1), 1) := by decide +kernel
theorem d_Mo_of_139 : decode b_Mo_of 139 = .ok (.ireturn, 1) := by decide +kernel
theorem d_Mo_of_140 : decode b_Mo_of 140 = .ok (.aload_n 0, 1) := by decide +kernel
theorem d_Mo_of_141 : decode b_Mo_of 141 = .ok (.iload_n 1, 1) := by decide +kernel
theorem d_Mo_of_142 : decode b_Mo_of 142 = .ok (.invokevirtual 167, 3) := by decide +kernel
theorem d_Mo_of_145 : decode b_Mo_of 145 = .ok (.ireturn, 1) := by decide +kernel
theorem d_Mo_of_146 : decode b_Mo_of 146 = .ok (.aload_n 0, 1) := by decide +kernel
theorem d_Mo_of_147 : decode b_Mo_of 147 = .ok (.getfield 52, 3) := by decide +kernel
theorem d_Mo_of_150 : decode b_Mo_of 150 = .ok (.iload_n 1, 1) := by decide +kernel
theorem d_Mo_of_151 : decode b_Mo_of 151 = .ok (.iaload, 1) := by decide +kernel
theorem d_Mo_of_152 : decode b_Mo_of 152 = .ok (.ireturn, 1) := by decide +kernel
theorem d_Mo_of_153 : decode b_Mo_of 153 = .ok (.iload_n 3, 1) := by decide +kernel
theorem d_Mo_of_154 : decode b_Mo_of 154 = .ok (.ifCond .eq 7, 3) := by decide +kernel
theorem d_Mo_of_157 : decode b_Mo_of 157 = .ok (.iconst 1, 1) := by decide +kernel
theorem d_Mo_of_158 : decode b_Mo_of 158 = .ok (.goto 4, 3) := by decide +kernel
theorem d_Mo_of_161 : decode b_Mo_of 161 = .ok (.iconst 0, 1) := by decide +kernel
theorem d_Mo_of_162 : decode b_Mo_of 162 = .ok (.ireturn, 1) := by decide +kernel
theorem d_Mo_of_163 : decode b_Mo_of 163 = .ok (.aload_n 0, 1) := by decide +kernel
theorem d_Mo_of_164 : decode b_Mo_of 164 = .ok (.iload_n 1, 1) := by decide +kernel
theorem d_Mo_of_165 : decode b_Mo_of 165 = .ok (.invokevirtual 170, 3) := by decide +kernel
theorem d_Mo_of_168 : decode b_Mo_of 168 = .ok (.ireturn, 1) := by decide +kernel
def s_Mo_of_83 (P_Mo_isJob : MI → ML → Int32 → Prop) (Q_Mo_isJob : MI → ML → Int32 → Int32 → MI → ML → Prop) (P_Mo_in : MI → ML → Int32 → Int32 → Int32 → Prop) (Q_Mo_in : MI → ML → Int32 → Int32 → Int32 → Int32 → MI → ML → Prop) (P_Mo_travelTo : MI → ML → Int32 → Prop) (Q_Mo_travelTo : MI → ML → Int32 → Int32 → MI → ML → Prop) (P_Mo_why : MI → ML → Int32 → Prop) (Q_Mo_why : MI → ML → Int32 → Int32 → MI → ML → Prop) (σ : MI) (τ : ML) (x1 : Int32) (x2 : Int32) (x3 : Int32) (R : Int32 → MI → ML → Prop) : Prop :=
  (x2 = 0 →
  (vp_in x1 7 ∧ (((σ 29 1) ≤ (σ 43 (Int32.toNatClampNeg x1)) →
    (R ((-1)) σ τ)) ∧
    (¬ (σ 29 1) ≤ (σ 43 (Int32.toNatClampNeg x1)) →
    (vp_in x1 7 ∧ (R (σ 43 (Int32.toNatClampNeg x1)) σ τ)))))) ∧ (¬ x2 = 0 →
  ((x2 = 1 →
  (P_Mo_travelTo σ τ x1 ∧ ∀ (r142 : Int32) (s142 : MI) (t142 : ML), Q_Mo_travelTo σ τ x1 r142 s142 t142 → (R r142 s142 t142))) ∧ (¬ x2 = 1 →
  ((x2 = 2 →
  (vp_in x1 7 ∧ (R (σ 44 (Int32.toNatClampNeg x1)) σ τ))) ∧ (¬ x2 = 2 →
  ((x2 = 3 →
  ((x3 = 0 →
    (R 0 σ τ)) ∧
    (¬ x3 = 0 →
    (R 1 σ τ)))) ∧ (¬ x2 = 3 →
  (P_Mo_why σ τ x1 ∧ ∀ (r165 : Int32) (s165 : MI) (t165 : ML), Q_Mo_why σ τ x1 r165 s165 t165 → (R r165 s165 t165)))))))))
def s_Mo_of_37 (P_Mo_isJob : MI → ML → Int32 → Prop) (Q_Mo_isJob : MI → ML → Int32 → Int32 → MI → ML → Prop) (P_Mo_in : MI → ML → Int32 → Int32 → Int32 → Prop) (Q_Mo_in : MI → ML → Int32 → Int32 → Int32 → Int32 → MI → ML → Prop) (P_Mo_travelTo : MI → ML → Int32 → Prop) (Q_Mo_travelTo : MI → ML → Int32 → Int32 → MI → ML → Prop) (P_Mo_why : MI → ML → Int32 → Prop) (Q_Mo_why : MI → ML → Int32 → Int32 → MI → ML → Prop) (σ : MI) (τ : ML) (x1 : Int32) (x2 : Int32) (R : Int32 → MI → ML → Prop) : Prop :=
  ((σ 29 0) ≤ 0 →
  (vp_in x1 7 ∧ (((σ 29 1) ≤ (σ 43 (Int32.toNatClampNeg x1)) →
    (s_Mo_of_83 P_Mo_isJob Q_Mo_isJob P_Mo_in Q_Mo_in P_Mo_travelTo Q_Mo_travelTo P_Mo_why Q_Mo_why σ τ x1 x2 0 R)) ∧
    (¬ (σ 29 1) ≤ (σ 43 (Int32.toNatClampNeg x1)) →
    (vp_in x1 7 ∧ (((σ 38 (Int32.toNatClampNeg x1)) ≤ 0 →
      (s_Mo_of_83 P_Mo_isJob Q_Mo_isJob P_Mo_in Q_Mo_in P_Mo_travelTo Q_Mo_travelTo P_Mo_why Q_Mo_why σ τ x1 x2 0 R)) ∧
      (¬ (σ 38 (Int32.toNatClampNeg x1)) ≤ 0 →
      (vp_in x1 7 ∧ ((¬ (σ 44 (Int32.toNatClampNeg x1)) = 0 →
        (s_Mo_of_83 P_Mo_isJob Q_Mo_isJob P_Mo_in Q_Mo_in P_Mo_travelTo Q_Mo_travelTo P_Mo_why Q_Mo_why σ τ x1 x2 0 R)) ∧
        ((σ 44 (Int32.toNatClampNeg x1)) = 0 →
        (s_Mo_of_83 P_Mo_isJob Q_Mo_isJob P_Mo_in Q_Mo_in P_Mo_travelTo Q_Mo_travelTo P_Mo_why Q_Mo_why σ τ x1 x2 1 R))))))))))) ∧
  (¬ (σ 29 0) ≤ 0 →
  (R 0 σ τ))
def s_Mo_of_0 (P_Mo_isJob : MI → ML → Int32 → Prop) (Q_Mo_isJob : MI → ML → Int32 → Int32 → MI → ML → Prop) (P_Mo_in : MI → ML → Int32 → Int32 → Int32 → Prop) (Q_Mo_in : MI → ML → Int32 → Int32 → Int32 → Int32 → MI → ML → Prop) (P_Mo_travelTo : MI → ML → Int32 → Prop) (Q_Mo_travelTo : MI → ML → Int32 → Int32 → MI → ML → Prop) (P_Mo_why : MI → ML → Int32 → Prop) (Q_Mo_why : MI → ML → Int32 → Int32 → MI → ML → Prop) (σ : MI) (τ : ML) (a1 : Int32) (a2 : Int32) (R : Int32 → MI → ML → Prop) : Prop :=
  P_Mo_isJob σ τ a1 ∧ ∀ (r3 : Int32) (s3 : MI) (t3 : ML), Q_Mo_isJob σ τ a1 r3 s3 t3 → ((r3 = 0 →
  (∀ s34 : MI, s34 = st2 s3 29 0 1 → (s_Mo_of_37 P_Mo_isJob Q_Mo_isJob P_Mo_in Q_Mo_in P_Mo_travelTo Q_Mo_travelTo P_Mo_why Q_Mo_why s34 t3 a1 a2 R))) ∧
  (¬ r3 = 0 →
  (P_Mo_in s3 t3 a2 0 4 ∧ ∀ (r12 : Int32) (s12 : MI) (t12 : ML), Q_Mo_in s3 t3 a2 0 4 r12 s12 t12 → ((¬ r12 = 0 →
    (((s12 29 18) = 0 →
      (∀ s34 : MI, s34 = st2 s12 29 0 2 → (s_Mo_of_37 P_Mo_isJob Q_Mo_isJob P_Mo_in Q_Mo_in P_Mo_travelTo Q_Mo_travelTo P_Mo_why Q_Mo_why s34 t12 a1 a2 R))) ∧
      (¬ (s12 29 18) = 0 →
      (∀ s34 : MI, s34 = st2 s12 29 0 0 → (s_Mo_of_37 P_Mo_isJob Q_Mo_isJob P_Mo_in Q_Mo_in P_Mo_travelTo Q_Mo_travelTo P_Mo_why Q_Mo_why s34 t12 a1 a2 R))))) ∧
    (r12 = 0 →
    (∀ s34 : MI, s34 = st2 s12 29 0 1 → (s_Mo_of_37 P_Mo_isJob Q_Mo_isJob P_Mo_in Q_Mo_in P_Mo_travelTo Q_Mo_travelTo P_Mo_why Q_Mo_why s34 t12 a1 a2 R)))))))
set_option maxHeartbeats 4000000 in
set_option maxRecDepth 100000 in
theorem k_Mo_of (l : Launch) (D : va_G) (ad : Nat → Nat) (ci cl : ClassId)
    (pre : MI → ML → Int32 → Int32 → Prop) (post : MI → ML → Int32 → Int32 → Int32 → MI → ML → Prop) (P_Mo_isJob : MI → ML → Int32 → Prop) (Q_Mo_isJob : MI → ML → Int32 → Int32 → MI → ML → Prop) (P_Mo_in : MI → ML → Int32 → Int32 → Int32 → Prop) (Q_Mo_in : MI → ML → Int32 → Int32 → Int32 → Int32 → MI → ML → Prop) (P_Mo_travelTo : MI → ML → Int32 → Prop) (Q_Mo_travelTo : MI → ML → Int32 → Int32 → MI → ML → Prop) (P_Mo_why : MI → ML → Int32 → Prop) (Q_Mo_why : MI → ML → Int32 → Int32 → MI → ML → Prop)
    (h_Mo_isJob : ∀ (sz : Nat) (σ : MI) (τ : ML) (b0 : Int32), P_Mo_isJob σ τ b0 → gMi l D (xw ad ci cl) (xt ci cl) (xa ad) y_Mo_isJob w_Mo_isJob rm_Mo_isJob [.ref (ad 29), .int b0] sz σ τ (Q_Mo_isJob σ τ b0))
    (h_Mo_in : ∀ (sz : Nat) (σ : MI) (τ : ML) (b0 : Int32) (b1 : Int32) (b2 : Int32), P_Mo_in σ τ b0 b1 b2 → gMi l D (xw ad ci cl) (xt ci cl) (xa ad) y_Mo_in w_Mo_in rm_Mo_in [.int b0, .int b1, .int b2] sz σ τ (Q_Mo_in σ τ b0 b1 b2))
    (h_Mo_travelTo : ∀ (sz : Nat) (σ : MI) (τ : ML) (b0 : Int32), P_Mo_travelTo σ τ b0 → gMi l D (xw ad ci cl) (xt ci cl) (xa ad) y_Mo_travelTo w_Mo_travelTo rm_Mo_travelTo [.ref (ad 29), .int b0] sz σ τ (Q_Mo_travelTo σ τ b0))
    (h_Mo_why : ∀ (sz : Nat) (σ : MI) (τ : ML) (b0 : Int32), P_Mo_why σ τ b0 → gMi l D (xw ad ci cl) (xt ci cl) (xa ad) y_Mo_why w_Mo_why rm_Mo_why [.ref (ad 29), .int b0] sz σ τ (Q_Mo_why σ τ b0))
    (v0 : ∀ (σ0 : MI) (τ0 : ML) (a1 : Int32) (a2 : Int32), pre σ0 τ0 a1 a2 → s_Mo_of_0 P_Mo_isJob Q_Mo_isJob P_Mo_in Q_Mo_in P_Mo_travelTo Q_Mo_travelTo P_Mo_why Q_Mo_why σ0 τ0 a1 a2 (post σ0 τ0 a1 a2)) :
    ∀ (sz : Nat) (σ0 : MI) (τ0 : ML) (a1 : Int32) (a2 : Int32), pre σ0 τ0 a1 a2 → gMi l D (xw ad ci cl) (xt ci cl) (xa ad) y_Mo_of w_Mo_of rm_Mo_of [.ref (ad 29), .int a1, .int a2] sz σ0 τ0 (post σ0 τ0 a1 a2) := by
  intro sz σ0 τ0 a1 a2 hpre
  refine gk_ofWi (cc := b_Mo_of) (maxL := 4) (ret := (some .int)) (by decide) rfl xa_ok (Nat.le_of_ble_eq_true rfl) ?_
  intro p e s m below meth c ls hx hb hr hlocks hml hown hts hK hP hD hS hl
  have hl : lv_has ls 4 [(0, .ref (ad 29)), (1, .int a1), (2, .int a2)] := hl
  have hown : s.vm.findClass R_Mo = some m.cls := hown
  have hv := v0 σ0 τ0 a1 a2 hpre
  unfold s_Mo_of_0 at hv
  have j83 : ∀ (w1 : Int32) (w2 : Int32) (w3 : Int32) (σ1 : MI) (τ1 : ML) (H : Heap) (locs : List Loc) (ls : Array Slot), s_Mo_of_83 P_Mo_isJob Q_Mo_isJob P_Mo_in Q_Mo_in P_Mo_travelTo Q_Mo_travelTo P_Mo_why Q_Mo_why σ1 τ1 w1 w2 w3 (post σ0 τ0 a1 a2) → va_P D classes ((xw ad ci cl) σ1 τ1) H → va_D (gA (xa ad) s.heap.size) ((xw ad ci cl) σ1 τ1) → va_S (gA (xa ad) s.heap.size) s.heap H locs → lv_has ls 4 [(0, .ref (ad 29)), (1, .int w1), (2, .int w2), (3, .int w3)] → W p l e rm_Mo_of s m [.ref (ad 29), .int a1, .int a2].toArray below meth c H locs 0 0 (gQi D (xw ad ci cl) (xt ci cl) (xa ad) below [.ref (ad 29), .int a1, .int a2] s (post σ0 τ0 a1 a2)) (F0 m 83 ls []) := by
    intro w1 w2 w3 σ1 τ1 H locs ls hv hP hD hS hl
    unfold s_Mo_of_83 at hv
    refine lv_iload_n hx hb d_Mo_of_83 rfl (lv_at hl 2 rfl) ?_
    by_cases hc0 : w2 = 0
    · replace hv := hv.1 hc0
      refine lv_tableIn (off := 32) (tgt := 116) hx hb d_Mo_of_84 (by rw [hc0]; decide) (by rw [hc0]; decide) (by rw [hc0]; rfl) (by decide) ?_
      refine lv_aload_n hx hb d_Mo_of_116 rfl (lv_at hl 0 rfl) ?_
      refine va_get (D := D) (ci := 7) (v := .ref (ad 43)) (C := R_Mo) (T := F_Mo) (N := 24) hx hb hts iw_Mo hown hK hP 29 rfl rfl 19 (by decide) (hts _ t_w312) (fun _ h9 => h9) rfl d_Mo_of_117 ?_
      refine lv_iload_n hx hb d_Mo_of_120 rfl (lv_at hl 1 rfl) ?_
      obtain ⟨hi, hv⟩ := hv
      refine va_iald hx hb hK hP 43 0 rfl rfl hi d_Mo_of_121 ?_
      refine lv_aload_n hx hb d_Mo_of_122 rfl (lv_at hl 0 rfl) ?_
      refine va_get (D := D) (ci := 7) (v := .int (σ1 29 1)) (C := R_Mo) (T := F_Mo) (N := 24) hx hb hts iw_Mo hown hK hP 29 rfl rfl 1 (by decide) (hts _ t_w248) (fun _ h9 => h9) rfl d_Mo_of_123 ?_
      refine lv_icmp_ge (tgt := 138) hx hb d_Mo_of_126 (by decide) (fun hc => ?_) (fun hc => ?_)
      · replace hv := hv.1 hc
        refine lv_iconst (v := (-1)) hx hb d_Mo_of_138 (by decide) ?_
        exact gk_iret hx hb hr hlocks hK hP hD hS hv d_Mo_of_139
      · replace hv := hv.2 hc
        refine lv_aload_n hx hb d_Mo_of_129 rfl (lv_at hl 0 rfl) ?_
        refine va_get (D := D) (ci := 7) (v := .ref (ad 43)) (C := R_Mo) (T := F_Mo) (N := 24) hx hb hts iw_Mo hown hK hP 29 rfl rfl 19 (by decide) (hts _ t_w312) (fun _ h9 => h9) rfl d_Mo_of_130 ?_
        refine lv_iload_n hx hb d_Mo_of_133 rfl (lv_at hl 1 rfl) ?_
        obtain ⟨hi, hv⟩ := hv
        refine va_iald hx hb hK hP 43 0 rfl rfl hi d_Mo_of_134 ?_
        refine lv_goto (tgt := 139) hx hb d_Mo_of_135 (by decide) ?_
        exact gk_iret hx hb hr hlocks hK hP hD hS hv d_Mo_of_139
    replace hv := hv.2 hc0
    by_cases hc1 : w2 = 1
    · replace hv := hv.1 hc1
      refine lv_tableIn (off := 56) (tgt := 140) hx hb d_Mo_of_84 (by rw [hc1]; decide) (by rw [hc1]; decide) (by rw [hc1]; rfl) (by decide) ?_
      refine lv_aload_n hx hb d_Mo_of_140 rfl (lv_at hl 0 rfl) ?_
      refine lv_iload_n hx hb d_Mo_of_141 rfl (lv_at hl 1 rfl) ?_
      obtain ⟨hg, hv⟩ := hv
      refine gk_callVi (As := [.int w1]) (rest := []) (b := ad 29) ⟨hx, hb, hml, hown, hts⟩ (h_Mo_travelTo _ σ1 τ1 w1 hg) (gk_cwV 1 hts t_w372 rfl rfl rfl (hts _ t_w369) (hts _ t_w370) (hts _ t_w371) (hts _ t_w252) (by decide +kernel) ⟨Nat.le_of_ble_eq_true rfl, Nat.le_of_ble_eq_true rfl⟩) hK hP hD hS (va_recv hK hP (ci := 7) (q0 := 29) rfl rfl) rfl hl.1 rfl (lv_room (Nat.le_of_ble_eq_true rfl)) d_Mo_of_142 ⟨Nat.zero_le _, Nat.zero_le _⟩ ?_
      intro r142 s142 t142 H locs hw hP hD hS
      replace hv := hv r142 s142 t142 hw
      exact gk_iret hx hb hr hlocks hK hP hD hS hv d_Mo_of_145
    replace hv := hv.2 hc1
    by_cases hc2 : w2 = 2
    · replace hv := hv.1 hc2
      refine lv_tableIn (off := 62) (tgt := 146) hx hb d_Mo_of_84 (by rw [hc2]; decide) (by rw [hc2]; decide) (by rw [hc2]; rfl) (by decide) ?_
      refine lv_aload_n hx hb d_Mo_of_146 rfl (lv_at hl 0 rfl) ?_
      refine va_get (D := D) (ci := 7) (v := .ref (ad 44)) (C := R_Mo) (T := F_Mo) (N := 24) hx hb hts iw_Mo hown hK hP 29 rfl rfl 20 (by decide) (hts _ t_w296) (fun _ h9 => h9) rfl d_Mo_of_147 ?_
      refine lv_iload_n hx hb d_Mo_of_150 rfl (lv_at hl 1 rfl) ?_
      obtain ⟨hi, hv⟩ := hv
      refine va_iald hx hb hK hP 44 0 rfl rfl hi d_Mo_of_151 ?_
      exact gk_iret hx hb hr hlocks hK hP hD hS hv d_Mo_of_152
    replace hv := hv.2 hc2
    by_cases hc3 : w2 = 3
    · replace hv := hv.1 hc3
      refine lv_tableIn (off := 69) (tgt := 153) hx hb d_Mo_of_84 (by rw [hc3]; decide) (by rw [hc3]; decide) (by rw [hc3]; rfl) (by decide) ?_
      refine lv_iload_n hx hb d_Mo_of_153 rfl (lv_at hl 3 rfl) ?_
      refine lv_if_eq (tgt := 161) hx hb d_Mo_of_154 (by decide) (fun hc => ?_) (fun hc => ?_)
      · replace hv := hv.1 hc
        refine lv_iconst (v := 0) hx hb d_Mo_of_161 (by decide) ?_
        exact gk_iret hx hb hr hlocks hK hP hD hS hv d_Mo_of_162
      · replace hv := hv.2 hc
        refine lv_iconst (v := 1) hx hb d_Mo_of_157 (by decide) ?_
        refine lv_goto (tgt := 162) hx hb d_Mo_of_158 (by decide) ?_
        exact gk_iret hx hb hr hlocks hK hP hD hS hv d_Mo_of_162
    replace hv := hv.2 hc3
    refine lv_tableOut (tgt := 163) hx hb d_Mo_of_84 (by have h0 := gk_ne hc0 (z := 0) (by decide); have h1 := gk_ne hc1 (z := 1) (by decide); have h2 := gk_ne hc2 (z := 2) (by decide); have h3 := gk_ne hc3 (z := 3) (by decide); omega) (by decide) ?_
    refine lv_aload_n hx hb d_Mo_of_163 rfl (lv_at hl 0 rfl) ?_
    refine lv_iload_n hx hb d_Mo_of_164 rfl (lv_at hl 1 rfl) ?_
    obtain ⟨hg, hv⟩ := hv
    refine gk_callVi (As := [.int w1]) (rest := []) (b := ad 29) ⟨hx, hb, hml, hown, hts⟩ (h_Mo_why _ σ1 τ1 w1 hg) (gk_cwV 1 hts t_w376 rfl rfl rfl (hts _ t_w373) (hts _ t_w374) (hts _ t_w375) (hts _ t_w252) (by decide +kernel) ⟨Nat.le_of_ble_eq_true rfl, Nat.le_of_ble_eq_true rfl⟩) hK hP hD hS (va_recv hK hP (ci := 7) (q0 := 29) rfl rfl) rfl hl.1 rfl (lv_room (Nat.le_of_ble_eq_true rfl)) d_Mo_of_165 ⟨Nat.zero_le _, Nat.zero_le _⟩ ?_
    intro r165 s165 t165 H locs hw hP hD hS
    replace hv := hv r165 s165 t165 hw
    exact gk_iret hx hb hr hlocks hK hP hD hS hv d_Mo_of_168
  have j37 : ∀ (w1 : Int32) (w2 : Int32) (σ1 : MI) (τ1 : ML) (H : Heap) (locs : List Loc) (ls : Array Slot), s_Mo_of_37 P_Mo_isJob Q_Mo_isJob P_Mo_in Q_Mo_in P_Mo_travelTo Q_Mo_travelTo P_Mo_why Q_Mo_why σ1 τ1 w1 w2 (post σ0 τ0 a1 a2) → va_P D classes ((xw ad ci cl) σ1 τ1) H → va_D (gA (xa ad) s.heap.size) ((xw ad ci cl) σ1 τ1) → va_S (gA (xa ad) s.heap.size) s.heap H locs → lv_has ls 4 [(0, .ref (ad 29)), (1, .int w1), (2, .int w2)] → W p l e rm_Mo_of s m [.ref (ad 29), .int a1, .int a2].toArray below meth c H locs 0 0 (gQi D (xw ad ci cl) (xt ci cl) (xa ad) below [.ref (ad 29), .int a1, .int a2] s (post σ0 τ0 a1 a2)) (F0 m 37 ls []) := by
    intro w1 w2 σ1 τ1 H locs ls hv hP hD hS hl
    unfold s_Mo_of_37 at hv
    refine lv_aload_n hx hb d_Mo_of_37 rfl (lv_at hl 0 rfl) ?_
    refine va_get (D := D) (ci := 7) (v := .int (σ1 29 0)) (C := R_Mo) (T := F_Mo) (N := 24) hx hb hts iw_Mo hown hK hP 29 rfl rfl 0 (by decide) (hts _ t_w247) (fun _ h9 => h9) rfl d_Mo_of_38 ?_
    refine lv_if_le (tgt := 46) hx hb d_Mo_of_41 (by decide) (fun hc => ?_) (fun hc => ?_)
    · replace hv := hv.1 hc
      refine lv_aload_n hx hb d_Mo_of_46 rfl (lv_at hl 0 rfl) ?_
      refine va_get (D := D) (ci := 7) (v := .ref (ad 43)) (C := R_Mo) (T := F_Mo) (N := 24) hx hb hts iw_Mo hown hK hP 29 rfl rfl 19 (by decide) (hts _ t_w312) (fun _ h9 => h9) rfl d_Mo_of_47 ?_
      refine lv_iload_n hx hb d_Mo_of_50 rfl (lv_at hl 1 rfl) ?_
      obtain ⟨hi, hv⟩ := hv
      refine va_iald hx hb hK hP 43 0 rfl rfl hi d_Mo_of_51 ?_
      refine lv_aload_n hx hb d_Mo_of_52 rfl (lv_at hl 0 rfl) ?_
      refine va_get (D := D) (ci := 7) (v := .int (σ1 29 1)) (C := R_Mo) (T := F_Mo) (N := 24) hx hb hts iw_Mo hown hK hP 29 rfl rfl 1 (by decide) (hts _ t_w248) (fun _ h9 => h9) rfl d_Mo_of_53 ?_
      refine lv_icmp_ge (tgt := 81) hx hb d_Mo_of_56 (by decide) (fun hc => ?_) (fun hc => ?_)
      · replace hv := hv.1 hc
        refine lv_iconst (v := 0) hx hb d_Mo_of_81 (by decide) ?_
        refine lv_istore_n (lv' := [(3, .int 0), (0, .ref (ad 29)), (1, .int w1), (2, .int w2)]) hx hb d_Mo_of_82 rfl hl (by decide) rfl (fun ls hl => ?_)
        exact j83 w1 w2 0 σ1 τ1 _ _ _ hv hP hD hS (lv_sub hl [1, 2, 3, 0] rfl)
      · replace hv := hv.2 hc
        refine lv_aload_n hx hb d_Mo_of_59 rfl (lv_at hl 0 rfl) ?_
        refine va_get (D := D) (ci := 7) (v := .ref (ad 38)) (C := R_Mo) (T := F_Mo) (N := 24) hx hb hts iw_Mo hown hK hP 29 rfl rfl 12 (by decide) (hts _ t_w272) (fun _ h9 => h9) rfl d_Mo_of_60 ?_
        refine lv_iload_n hx hb d_Mo_of_63 rfl (lv_at hl 1 rfl) ?_
        obtain ⟨hi, hv⟩ := hv
        refine va_iald hx hb hK hP 38 0 rfl rfl hi d_Mo_of_64 ?_
        refine lv_if_le (tgt := 81) hx hb d_Mo_of_65 (by decide) (fun hc => ?_) (fun hc => ?_)
        · replace hv := hv.1 hc
          refine lv_iconst (v := 0) hx hb d_Mo_of_81 (by decide) ?_
          refine lv_istore_n (lv' := [(3, .int 0), (0, .ref (ad 29)), (1, .int w1), (2, .int w2)]) hx hb d_Mo_of_82 rfl hl (by decide) rfl (fun ls hl => ?_)
          exact j83 w1 w2 0 σ1 τ1 _ _ _ hv hP hD hS (lv_sub hl [1, 2, 3, 0] rfl)
        · replace hv := hv.2 hc
          refine lv_aload_n hx hb d_Mo_of_68 rfl (lv_at hl 0 rfl) ?_
          refine va_get (D := D) (ci := 7) (v := .ref (ad 44)) (C := R_Mo) (T := F_Mo) (N := 24) hx hb hts iw_Mo hown hK hP 29 rfl rfl 20 (by decide) (hts _ t_w296) (fun _ h9 => h9) rfl d_Mo_of_69 ?_
          refine lv_iload_n hx hb d_Mo_of_72 rfl (lv_at hl 1 rfl) ?_
          obtain ⟨hi, hv⟩ := hv
          refine va_iald hx hb hK hP 44 0 rfl rfl hi d_Mo_of_73 ?_
          refine lv_if_ne (tgt := 81) hx hb d_Mo_of_74 (by decide) (fun hc => ?_) (fun hc => ?_)
          · replace hv := hv.1 hc
            refine lv_iconst (v := 0) hx hb d_Mo_of_81 (by decide) ?_
            refine lv_istore_n (lv' := [(3, .int 0), (0, .ref (ad 29)), (1, .int w1), (2, .int w2)]) hx hb d_Mo_of_82 rfl hl (by decide) rfl (fun ls hl => ?_)
            exact j83 w1 w2 0 σ1 τ1 _ _ _ hv hP hD hS (lv_sub hl [1, 2, 3, 0] rfl)
          · replace hv := hv.2 hc
            refine lv_iconst (v := 1) hx hb d_Mo_of_77 (by decide) ?_
            refine lv_goto (tgt := 82) hx hb d_Mo_of_78 (by decide) ?_
            refine lv_istore_n (lv' := [(3, .int 1), (0, .ref (ad 29)), (1, .int w1), (2, .int w2)]) hx hb d_Mo_of_82 rfl hl (by decide) rfl (fun ls hl => ?_)
            exact j83 w1 w2 1 σ1 τ1 _ _ _ hv hP hD hS (lv_sub hl [1, 2, 3, 0] rfl)
    · replace hv := hv.2 hc
      refine lv_iconst (v := 0) hx hb d_Mo_of_44 (by decide) ?_
      exact gk_iret hx hb hr hlocks hK hP hD hS hv d_Mo_of_45
  refine lv_aload_n hx hb d_Mo_of_0 rfl (lv_at hl 0 rfl) ?_
  refine lv_aload_n hx hb d_Mo_of_1 rfl (lv_at hl 0 rfl) ?_
  refine lv_iload_n hx hb d_Mo_of_2 rfl (lv_at hl 1 rfl) ?_
  obtain ⟨hg, hv⟩ := hv
  refine gk_callVi (As := [.int a1]) (rest := [.ref (ad 29)]) (b := ad 29) ⟨hx, hb, hml, hown, hts⟩ (h_Mo_isJob _ σ0 τ0 a1 hg) (gk_cwV 1 hts t_w368 rfl rfl rfl (hts _ t_w365) (hts _ t_w366) (hts _ t_w367) (hts _ t_w252) (by decide +kernel) ⟨Nat.le_of_ble_eq_true rfl, Nat.le_of_ble_eq_true rfl⟩) hK hP hD hS (va_recv hK hP (ci := 7) (q0 := 29) rfl rfl) rfl hl.1 rfl (lv_room (Nat.le_of_ble_eq_true rfl)) d_Mo_of_3 ⟨Nat.zero_le _, Nat.zero_le _⟩ ?_
  intro r3 s3 t3 H locs hw hP hD hS
  replace hv := hv r3 s3 t3 hw
  refine lv_if_eq (tgt := 18) hx hb d_Mo_of_6 (by decide) (fun hc => ?_) (fun hc => ?_)
  · replace hv := hv.1 hc
    refine lv_iconst (v := 1) hx hb d_Mo_of_18 (by decide) ?_
    refine lv_goto (tgt := 34) hx hb d_Mo_of_19 (by decide) ?_
    refine va_put (D := D) (ci := 7) (v := .int 1) (ty := .int) (fs := [.int (s3 29 0), .int (s3 29 1), .ref (ad 30), .ref (ad 31), .ref (ad 32), .ref (ad 33), .ref (ad 34), .ref (ad 35), .int (s3 29 8), .ref (ad 36), .int (s3 29 10), .ref (ad 37), .ref (ad 38), .ref (ad 39), .ref (ad 40), .ref (ad 41), .ref (ad 42), .int (s3 29 17), .int (s3 29 18), .ref (ad 43), .ref (ad 44), .int (s3 29 21), .ref (ad 45), .ref (ad 46)]) (C := R_Mo) (T := F_Mo) (N := 24) hx hb hts iw_Mo ty_Mo ty_Mo_ok nn_Mo hown hK hP hD hS 29 rfl rfl 0 (by decide) (hts _ t_w247) (fun _ h9 => h9) rfl (by decide +kernel) rfl rfl (Nat.le_of_ble_eq_true rfl) d_Mo_of_34 (fun H locs hP hD hS => ?_)
    rw [xf_29_0] at hP hD
    obtain ⟨s34, es34⟩ : ∃ z : MI, z = st2 s3 29 0 1 := ⟨_, rfl⟩
    rw [← es34] at hP hD
    replace hv := hv s34 es34
    exact j37 a1 a2 s34 t3 _ _ _ hv hP hD hS (lv_sub hl [0, 1, 2] rfl)
  · replace hv := hv.2 hc
    refine lv_iload_n hx hb d_Mo_of_9 rfl (lv_at hl 2 rfl) ?_
    refine lv_iconst (v := 0) hx hb d_Mo_of_10 (by decide) ?_
    refine lv_iconst (v := 4) hx hb d_Mo_of_11 (by decide) ?_
    obtain ⟨hg, hv⟩ := hv
    refine gk_callSi (As := [.int a2, .int 0, .int 4]) (rest := [.ref (ad 29)]) ⟨hx, hb, hml, hown, hts⟩ (h_Mo_in _ s3 t3 a2 0 4 hg) (gk_cwS 3 hts t_w253 rfl rfl rfl (hts _ t_w250) (hts _ t_w251) (hts _ t_w252) (by decide +kernel) ⟨Nat.le_of_ble_eq_true rfl, Nat.le_of_ble_eq_true rfl⟩) hK hP hD hS rfl hl.1 rfl (lv_room (Nat.le_of_ble_eq_true rfl)) d_Mo_of_12 ⟨Nat.zero_le _, Nat.zero_le _⟩ ?_
    intro r12 s12 t12 H locs hw hP hD hS
    replace hv := hv r12 s12 t12 hw
    refine lv_if_ne (tgt := 22) hx hb d_Mo_of_15 (by decide) (fun hc => ?_) (fun hc => ?_)
    · replace hv := hv.1 hc
      refine lv_aload_n hx hb d_Mo_of_22 rfl (lv_at hl 0 rfl) ?_
      refine va_get (D := D) (ci := 7) (v := .int (s12 29 18)) (C := R_Mo) (T := F_Mo) (N := 24) hx hb hts iw_Mo hown hK hP 29 rfl rfl 18 (by decide) (hts _ t_w268) (fun _ h9 => h9) rfl d_Mo_of_23 ?_
      refine lv_if_eq (tgt := 33) hx hb d_Mo_of_26 (by decide) (fun hc => ?_) (fun hc => ?_)
      · replace hv := hv.1 hc
        refine lv_iconst (v := 2) hx hb d_Mo_of_33 (by decide) ?_
        refine va_put (D := D) (ci := 7) (v := .int 2) (ty := .int) (fs := [.int (s12 29 0), .int (s12 29 1), .ref (ad 30), .ref (ad 31), .ref (ad 32), .ref (ad 33), .ref (ad 34), .ref (ad 35), .int (s12 29 8), .ref (ad 36), .int (s12 29 10), .ref (ad 37), .ref (ad 38), .ref (ad 39), .ref (ad 40), .ref (ad 41), .ref (ad 42), .int (s12 29 17), .int (s12 29 18), .ref (ad 43), .ref (ad 44), .int (s12 29 21), .ref (ad 45), .ref (ad 46)]) (C := R_Mo) (T := F_Mo) (N := 24) hx hb hts iw_Mo ty_Mo ty_Mo_ok nn_Mo hown hK hP hD hS 29 rfl rfl 0 (by decide) (hts _ t_w247) (fun _ h9 => h9) rfl (by decide +kernel) rfl rfl (Nat.le_of_ble_eq_true rfl) d_Mo_of_34 (fun H locs hP hD hS => ?_)
        rw [xf_29_0] at hP hD
        obtain ⟨s34, es34⟩ : ∃ z : MI, z = st2 s12 29 0 2 := ⟨_, rfl⟩
        rw [← es34] at hP hD
        replace hv := hv s34 es34
        exact j37 a1 a2 s34 t12 _ _ _ hv hP hD hS (lv_sub hl [0, 1, 2] rfl)
      · replace hv := hv.2 hc
        refine lv_iconst (v := 0) hx hb d_Mo_of_29 (by decide) ?_
        refine lv_goto (tgt := 34) hx hb d_Mo_of_30 (by decide) ?_
        refine va_put (D := D) (ci := 7) (v := .int 0) (ty := .int) (fs := [.int (s12 29 0), .int (s12 29 1), .ref (ad 30), .ref (ad 31), .ref (ad 32), .ref (ad 33), .ref (ad 34), .ref (ad 35), .int (s12 29 8), .ref (ad 36), .int (s12 29 10), .ref (ad 37), .ref (ad 38), .ref (ad 39), .ref (ad 40), .ref (ad 41), .ref (ad 42), .int (s12 29 17), .int (s12 29 18), .ref (ad 43), .ref (ad 44), .int (s12 29 21), .ref (ad 45), .ref (ad 46)]) (C := R_Mo) (T := F_Mo) (N := 24) hx hb hts iw_Mo ty_Mo ty_Mo_ok nn_Mo hown hK hP hD hS 29 rfl rfl 0 (by decide) (hts _ t_w247) (fun _ h9 => h9) rfl (by decide +kernel) rfl rfl (Nat.le_of_ble_eq_true rfl) d_Mo_of_34 (fun H locs hP hD hS => ?_)
        rw [xf_29_0] at hP hD
        obtain ⟨s34, es34⟩ : ∃ z : MI, z = st2 s12 29 0 0 := ⟨_, rfl⟩
        rw [← es34] at hP hD
        replace hv := hv s34 es34
        exact j37 a1 a2 s34 t12 _ _ _ hv hP hD hS (lv_sub hl [0, 1, 2] rfl)
    · replace hv := hv.2 hc
      refine lv_iconst (v := 1) hx hb d_Mo_of_18 (by decide) ?_
      refine lv_goto (tgt := 34) hx hb d_Mo_of_19 (by decide) ?_
      refine va_put (D := D) (ci := 7) (v := .int 1) (ty := .int) (fs := [.int (s12 29 0), .int (s12 29 1), .ref (ad 30), .ref (ad 31), .ref (ad 32), .ref (ad 33), .ref (ad 34), .ref (ad 35), .int (s12 29 8), .ref (ad 36), .int (s12 29 10), .ref (ad 37), .ref (ad 38), .ref (ad 39), .ref (ad 40), .ref (ad 41), .ref (ad 42), .int (s12 29 17), .int (s12 29 18), .ref (ad 43), .ref (ad 44), .int (s12 29 21), .ref (ad 45), .ref (ad 46)]) (C := R_Mo) (T := F_Mo) (N := 24) hx hb hts iw_Mo ty_Mo ty_Mo_ok nn_Mo hown hK hP hD hS 29 rfl rfl 0 (by decide) (hts _ t_w247) (fun _ h9 => h9) rfl (by decide +kernel) rfl rfl (Nat.le_of_ble_eq_true rfl) d_Mo_of_34 (fun H locs hP hD hS => ?_)
      rw [xf_29_0] at hP hD
      obtain ⟨s34, es34⟩ : ∃ z : MI, z = st2 s12 29 0 1 := ⟨_, rfl⟩
      rw [← es34] at hP hD
      replace hv := hv s34 es34
      exact j37 a1 a2 s34 t12 _ _ _ hv hP hD hS (lv_sub hl [0, 1, 2] rfl)
theorem d_Mo_late_0 : decode b_Mo_late 0 = .ok (.aload_n 0, 1) := by decide +kernel
theorem d_Mo_late_1 : decode b_Mo_late 1 = .ok (.iload_n 1, 1) := by decide +kernel
theorem d_Mo_late_2 : decode b_Mo_late 2 = .ok (.invokevirtual 164, 3) := by decide +kernel
theorem d_Mo_late_5 : decode b_Mo_late 5 = .ok (.ifCond .eq 32, 3) := by decide +kernel
theorem d_Mo_late_8 : decode b_Mo_late 8 = .ok (.iload_n 2, 1) := by decide +kernel
theorem d_Mo_late_9 : decode b_Mo_late 9 = .ok (.iconst 0, 1) := by decide +kernel
theorem d_Mo_late_10 : decode b_Mo_late 10 = .ok (.sipush 2880, 3) := by decide +kernel
theorem d_Mo_late_13 : decode b_Mo_late 13 = .ok (.invokestatic 71, 3) := by decide +kernel
theorem d_Mo_late_16 : decode b_Mo_late 16 = .ok (.ifCond .eq 21, 3) := by decide +kernel
theorem d_Mo_late_19 : decode b_Mo_late 19 = .ok (.iload_n 2, 1) := by decide +kernel
theorem d_Mo_late_20 : decode b_Mo_late 20 = .ok (.aload_n 0, 1) := by decide +kernel
theorem d_Mo_late_21 : decode b_Mo_late 21 = .ok (.getfield 40, 3) := by decide +kernel
theorem d_Mo_late_24 : decode b_Mo_late 24 = .ok (.iload_n 1, 1) := by decide +kernel
theorem d_Mo_late_25 : decode b_Mo_late 25 = .ok (.iaload, 1) := by decide +kernel
theorem d_Mo_late_26 : decode b_Mo_late 26 = .ok (.iadd, 1) := by decide +kernel
theorem d_Mo_late_27 : decode b_Mo_late 27 = .ok (.aload_n 0, 1) := by decide +kernel
theorem d_Mo_late_28 : decode b_Mo_late 28 = .ok (.getfield 37, 3) := by decide +kernel
theorem d_Mo_late_31 : decode b_Mo_late 31 = .ok (.iload_n 1, 1) := by decide +kernel
theorem d_Mo_late_32 : decode b_Mo_late 32 = .ok (.iaload, 1) := by decide +kernel
theorem d_Mo_late_33 : decode b_Mo_late 33 = .ok (.isub, 1) := by decide +kernel
theorem d_Mo_late_34 : decode b_Mo_late 34 = .ok (.goto 6, 3) := by decide +kernel
theorem d_Mo_late_37 : decode b_Mo_late 37 = .ok (.sipush 2881, 3) := by decide +kernel
theorem d_Mo_late_40 : decode b_Mo_late 40 = .ok (.istore_n 3, 1) := by decide +kernel
theorem d_Mo_late_41 : decode b_Mo_late 41 = .ok (.aload_n 0, 1) := by decide +kernel
theorem d_Mo_late_42 : decode b_Mo_late 42 = .ok (.aload_n 0, 1) := by decide +kernel
theorem d_Mo_late_43 : decode b_Mo_late 43 = .ok (.iload_n 1, 1) := by decide +kernel
theorem d_Mo_late_44 : decode b_Mo_late 44 = .ok (.invokevirtual 164, 3) := by decide +kernel
theorem d_Mo_late_47 : decode b_Mo_late 47 = .ok (.ifCond .ne 7, 3) := by decide +kernel
theorem d_Mo_late_50 : decode b_Mo_late 50 = .ok (.iconst 1, 1) := by decide +kernel
theorem d_Mo_late_51 : decode b_Mo_late 51 = .ok (.goto 26, 3) := by decide +kernel
theorem d_Mo_late_54 : decode b_Mo_late 54 = .ok (.iload_n 3, 1) := by decide +kernel
theorem d_Mo_late_55 : decode b_Mo_late 55 = .ok (.sipush 2880, 3) := by decide +kernel
theorem d_Mo_late_58 : decode b_Mo_late 58 = .ok (.if_icmp .le 7, 3) := by decide +kernel
theorem d_Mo_late_61 : decode b_Mo_late 61 = .ok (.iconst 2, 1) := by decide +kernel
theorem d_Mo_late_62 : decode b_Mo_late 62 = .ok (.goto 15, 3) := by decide +kernel
theorem d_Mo_late_65 : decode b_Mo_late 65 = .ok (.aload_n 0, 1) := by decide +kernel
theorem d_Mo_late_66 : decode b_Mo_late 66 = .ok (.getfield 87, 3) := by decide +kernel
theorem d_Mo_late_69 : decode b_Mo_late 69 = .ok (.ifCond .eq 7, 3) := by decide +kernel
theorem d_Mo_late_72 : decode b_Mo_late 72 = .ok (.iconst 0, 1) := by decide +kernel
theorem d_Mo_late_73 : decode b_Mo_late 73 = .ok (.goto 4, 3) := by decide +kernel
theorem d_Mo_late_76 : decode b_Mo_late 76 = .ok (.iconst 3, 1) := by decide +kernel
theorem d_Mo_late_77 : decode b_Mo_late 77 = .ok (.putfield 61, 3) := by decide +kernel
theorem d_Mo_late_80 : decode b_Mo_late 80 = .ok (.aload_n 0, 1) := by decide +kernel
theorem d_Mo_late_81 : decode b_Mo_late 81 = .ok (.getfield 61, 3) := by decide +kernel
theorem d_Mo_late_84 : decode b_Mo_late 84 = .ok (.ifCond .le 5, 3) := by decide +kernel
theorem d_Mo_late_87 : decode b_Mo_late 87 = .ok (.iconst 0, 1) := by decide +kernel
theorem d_Mo_late_88 : decode b_Mo_late 88 = .ok (.ireturn, 1) := by decide +kernel
theorem d_Mo_late_89 : decode b_Mo_late 89 = .ok (.iconst 0, 1) := by decide +kernel
theorem d_Mo_late_90 : decode b_Mo_late 90 = .ok (.istore 4, 2) := by decide +kernel
theorem d_Mo_late_92 : decode b_Mo_late 92 = .ok (.iconst 0, 1) := by decide +kernel
theorem d_Mo_late_93 : decode b_Mo_late 93 = .ok (.istore 5, 2) := by decide +kernel
theorem d_Mo_late_95 : decode b_Mo_late 95 = .ok (.iload 5, 2) := by decide +kernel
theorem d_Mo_late_97 : decode b_Mo_late 97 = .ok (.aload_n 0, 1) := by decide +kernel
theorem d_Mo_late_98 : decode b_Mo_late 98 = .ok (.getfield 68, 3) := by decide +kernel
theorem d_Mo_late_101 : decode b_Mo_late 101 = .ok (.if_icmp .ge 23, 3) := by decide +kernel
theorem d_Mo_late_104 : decode b_Mo_late 104 = .ok (.iconst 5, 1) := by decide +kernel
theorem d_Mo_late_105 : decode b_Mo_late 105 = .ok (.iload 4, 2) := by decide +kernel
theorem d_Mo_late_107 : decode b_Mo_late 107 = .ok (.imul, 1) := by decide +kernel
theorem d_Mo_late_108 : decode b_Mo_late 108 = .ok (.aload_n 0, 1) := by decide +kernel
theorem d_Mo_late_109 : decode b_Mo_late 109 = .ok (.getfield 49, 3) := by decide +kernel
theorem d_Mo_late_112 : decode b_Mo_late 112 = .ok (.iload 5, 2) := by decide +kernel
theorem d_Mo_late_114 : decode b_Mo_late 114 = .ok (.iaload, 1) := by decide +kernel
theorem d_Mo_late_115 : decode b_Mo_late 115 = .ok (.iadd, 1) := by decide +kernel
theorem d_Mo_late_116 : decode b_Mo_late 116 = .ok (.istore 4, 2) := by decide +kernel
theorem d_Mo_late_118 : decode b_Mo_late 118 = .ok (.iinc 5 1, 3) := by decide +kernel
theorem d_Mo_late_121 : decode b_Mo_late 121 = .ok (.goto (-26), 3) := by decide +kernel
theorem d_Mo_late_124 : decode b_Mo_late 124 = .ok (.aload_n 0, 1) := by decide +kernel
theorem d_Mo_late_125 : decode b_Mo_late 125 = .ok (.getfield 37, 3) := by decide +kernel
theorem d_Mo_late_128 : decode b_Mo_late 128 = .ok (.iload_n 1, 1) := by decide +kernel
theorem d_Mo_late_129 : decode b_Mo_late 129 = .ok (.iload_n 2, 1) := by decide +kernel
theorem d_Mo_late_130 : decode b_Mo_late 130 = .ok (.iastore, 1) := by decide +kernel
theorem d_Mo_late_131 : decode b_Mo_late 131 = .ok (.aload_n 0, 1) := by decide +kernel
theorem d_Mo_late_132 : decode b_Mo_late 132 = .ok (.getfield 40, 3) := by decide +kernel
theorem d_Mo_late_135 : decode b_Mo_late 135 = .ok (.iload_n 1, 1) := by decide +kernel
theorem d_Mo_late_136 : decode b_Mo_late 136 = .ok (.iload_n 3, 1) := by decide +kernel
theorem d_Mo_late_137 : decode b_Mo_late 137 = .ok (.iastore, 1) := by decide +kernel
theorem d_Mo_late_138 : decode b_Mo_late 138 = .ok (.aload_n 0, 1) := by decide +kernel
theorem d_Mo_late_139 : decode b_Mo_late 139 = .ok (.invokevirtual 152, 3) := by decide +kernel
theorem d_Mo_late_142 : decode b_Mo_late 142 = .ok (.iconst 0, 1) := by decide +kernel
theorem d_Mo_late_143 : decode b_Mo_late 143 = .ok (.istore 5, 2) := by decide +kernel
theorem d_Mo_late_145 : decode b_Mo_late 145 = .ok (.aload_n 0, 1) := by decide +kernel
theorem d_Mo_late_146 : decode b_Mo_late 146 = .ok (.getfield 68, 3) := by decide +kernel
theorem d_Mo_late_149 : decode b_Mo_late 149 = .ok (.iconst 1, 1) := by decide +kernel
theorem d_Mo_late_150 : decode b_Mo_late 150 = .ok (.isub, 1) := by decide +kernel
theorem d_Mo_late_151 : decode b_Mo_late 151 = .ok (.istore 6, 2) := by decide +kernel
theorem d_Mo_late_153 : decode b_Mo_late 153 = .ok (.iload 6, 2) := by decide +kernel
theorem d_Mo_late_155 : decode b_Mo_late 155 = .ok (.ifCond .lt 39, 3) := by decide +kernel
theorem d_Mo_late_158 : decode b_Mo_late 158 = .ok (.iload 5, 2) := by decide +kernel
theorem d_Mo_late_160 : decode b_Mo_late 160 = .ok (.iload 4, 2) := by decide +kernel
theorem d_Mo_late_162 : decode b_Mo_late 162 = .ok (.iconst 5, 1) := by decide +kernel
theorem d_Mo_late_163 : decode b_Mo_late 163 = .ok (.irem, 1) := by decide +kernel
theorem d_Mo_late_164 : decode b_Mo_late 164 = .ok (.aload_n 0, 1) := by decide +kernel
theorem d_Mo_late_165 : decode b_Mo_late 165 = .ok (.getfield 49, 3) := by decide +kernel
theorem d_Mo_late_168 : decode b_Mo_late 168 = .ok (.iload 6, 2) := by decide +kernel
theorem d_Mo_late_170 : decode b_Mo_late 170 = .ok (.iaload, 1) := by decide +kernel
theorem d_Mo_late_171 : decode b_Mo_late 171 = .ok (.if_icmp .eq 7, 3) := by decide +kernel
theorem d_Mo_late_174 : decode b_Mo_late 174 = .ok (.iconst 1, 1) := by decide +kernel
theorem d_Mo_late_175 : decode b_Mo_late 175 = .ok (.goto 4, 3) := by decide +kernel
theorem d_Mo_late_178 : decode b_Mo_late 178 = .ok (.iconst 0, 1) := by decide +kernel
theorem d_Mo_late_179 : decode b_Mo_late 179 = .ok (.iadd, 1) := by decide +kernel
theorem d_Mo_late_180 : decode b_Mo_late 180 = .ok (.istore 5, 2) := by decide +kernel
theorem d_Mo_late_182 : decode b_Mo_late 182 = .ok (.iload 4, 2) := by decide +kernel
theorem d_Mo_late_184 : decode b_Mo_late 184 = .ok (.iconst 5, 1) := by decide +kernel
theorem d_Mo_late_185 : decode b_Mo_late 185 = .ok (.idiv, 1) := by decide +kernel
theorem d_Mo_late_186 : decode b_Mo_late 186 = .ok (.istore 4, 2) := by decide +kernel
theorem d_Mo_late_188 : decode b_Mo_late 188 = .ok (.iinc 6 (-1), 3) := by decide +kernel
theorem d_Mo_late_191 : decode b_Mo_late 191 = .ok (.goto (-38), 3) := by decide +kernel
theorem d_Mo_late_194 : decode b_Mo_late 194 = .ok (.iload 5, 2) := by decide +kernel
theorem d_Mo_late_196 : decode b_Mo_late 196 = .ok (.ireturn, 1) := by decide +kernel
def s_Mo_late_182 (P_Mo_isJob : MI → ML → Int32 → Prop) (Q_Mo_isJob : MI → ML → Int32 → Int32 → MI → ML → Prop) (P_Mo_in : MI → ML → Int32 → Int32 → Int32 → Prop) (Q_Mo_in : MI → ML → Int32 → Int32 → Int32 → Int32 → MI → ML → Prop) (P_Mo_search : MI → ML → Prop) (Q_Mo_search : MI → ML → MI → ML → Prop) (σ : MI) (τ : ML) (x4 : Int32) (x5 : Int32) (x6 : Int32) (K95 : Int32 → Int32 → Int32 → Int32 → Int32 → MI → ML → Prop) (K153 : Int32 → Int32 → Int32 → MI → ML → Prop) (R : Int32 → MI → ML → Prop) : Prop :=
  ¬ (5 : Int32) = 0 ∧ (∀ y186 : Int32, y186 = x4 / 5 → (∀ y188 : Int32, y188 = x6 + (-1) → (K153 y186 x5 y188 σ τ)))
def s_Mo_late_80 (P_Mo_isJob : MI → ML → Int32 → Prop) (Q_Mo_isJob : MI → ML → Int32 → Int32 → MI → ML → Prop) (P_Mo_in : MI → ML → Int32 → Int32 → Int32 → Prop) (Q_Mo_in : MI → ML → Int32 → Int32 → Int32 → Int32 → MI → ML → Prop) (P_Mo_search : MI → ML → Prop) (Q_Mo_search : MI → ML → MI → ML → Prop) (σ : MI) (τ : ML) (x1 : Int32) (x2 : Int32) (x3 : Int32) (K95 : Int32 → Int32 → Int32 → Int32 → Int32 → MI → ML → Prop) (K153 : Int32 → Int32 → Int32 → MI → ML → Prop) (R : Int32 → MI → ML → Prop) : Prop :=
  ((σ 29 0) ≤ 0 →
  (K95 x1 x2 x3 0 0 σ τ)) ∧
  (¬ (σ 29 0) ≤ 0 →
  (R 0 σ τ))
def s_Mo_late_41 (P_Mo_isJob : MI → ML → Int32 → Prop) (Q_Mo_isJob : MI → ML → Int32 → Int32 → MI → ML → Prop) (P_Mo_in : MI → ML → Int32 → Int32 → Int32 → Prop) (Q_Mo_in : MI → ML → Int32 → Int32 → Int32 → Int32 → MI → ML → Prop) (P_Mo_search : MI → ML → Prop) (Q_Mo_search : MI → ML → MI → ML → Prop) (σ : MI) (τ : ML) (x1 : Int32) (x2 : Int32) (x3 : Int32) (K95 : Int32 → Int32 → Int32 → Int32 → Int32 → MI → ML → Prop) (K153 : Int32 → Int32 → Int32 → MI → ML → Prop) (R : Int32 → MI → ML → Prop) : Prop :=
  P_Mo_isJob σ τ x1 ∧ ∀ (r44 : Int32) (s44 : MI) (t44 : ML), Q_Mo_isJob σ τ x1 r44 s44 t44 → ((¬ r44 = 0 →
  ((x3 ≤ 2880 →
    (((s44 29 18) = 0 →
      (∀ s77 : MI, s77 = st2 s44 29 0 3 → (s_Mo_late_80 P_Mo_isJob Q_Mo_isJob P_Mo_in Q_Mo_in P_Mo_search Q_Mo_search s77 t44 x1 x2 x3 K95 K153 R))) ∧
      (¬ (s44 29 18) = 0 →
      (∀ s77 : MI, s77 = st2 s44 29 0 0 → (s_Mo_late_80 P_Mo_isJob Q_Mo_isJob P_Mo_in Q_Mo_in P_Mo_search Q_Mo_search s77 t44 x1 x2 x3 K95 K153 R))))) ∧
    (¬ x3 ≤ 2880 →
    (∀ s77 : MI, s77 = st2 s44 29 0 2 → (s_Mo_late_80 P_Mo_isJob Q_Mo_isJob P_Mo_in Q_Mo_in P_Mo_search Q_Mo_search s77 t44 x1 x2 x3 K95 K153 R))))) ∧
  (r44 = 0 →
  (∀ s77 : MI, s77 = st2 s44 29 0 1 → (s_Mo_late_80 P_Mo_isJob Q_Mo_isJob P_Mo_in Q_Mo_in P_Mo_search Q_Mo_search s77 t44 x1 x2 x3 K95 K153 R))))
def s_Mo_late_0 (P_Mo_isJob : MI → ML → Int32 → Prop) (Q_Mo_isJob : MI → ML → Int32 → Int32 → MI → ML → Prop) (P_Mo_in : MI → ML → Int32 → Int32 → Int32 → Prop) (Q_Mo_in : MI → ML → Int32 → Int32 → Int32 → Int32 → MI → ML → Prop) (P_Mo_search : MI → ML → Prop) (Q_Mo_search : MI → ML → MI → ML → Prop) (σ : MI) (τ : ML) (a1 : Int32) (a2 : Int32) (K95 : Int32 → Int32 → Int32 → Int32 → Int32 → MI → ML → Prop) (K153 : Int32 → Int32 → Int32 → MI → ML → Prop) (R : Int32 → MI → ML → Prop) : Prop :=
  P_Mo_isJob σ τ a1 ∧ ∀ (r2 : Int32) (s2 : MI) (t2 : ML), Q_Mo_isJob σ τ a1 r2 s2 t2 → ((r2 = 0 →
  (s_Mo_late_41 P_Mo_isJob Q_Mo_isJob P_Mo_in Q_Mo_in P_Mo_search Q_Mo_search s2 t2 a1 a2 2881 K95 K153 R)) ∧
  (¬ r2 = 0 →
  (P_Mo_in s2 t2 a2 0 2880 ∧ ∀ (r13 : Int32) (s13 : MI) (t13 : ML), Q_Mo_in s2 t2 a2 0 2880 r13 s13 t13 → ((r13 = 0 →
    (s_Mo_late_41 P_Mo_isJob Q_Mo_isJob P_Mo_in Q_Mo_in P_Mo_search Q_Mo_search s13 t13 a1 a2 2881 K95 K153 R)) ∧
    (¬ r13 = 0 →
    (vp_in a1 7 ∧ (vp_in a1 7 ∧ (∀ y40 : Int32, y40 = (a2 + (s13 40 (Int32.toNatClampNeg a1))) - (s13 39 (Int32.toNatClampNeg a1)) → (s_Mo_late_41 P_Mo_isJob Q_Mo_isJob P_Mo_in Q_Mo_in P_Mo_search Q_Mo_search s13 t13 a1 a2 y40 K95 K153 R)))))))))
def s_Mo_late_95 (P_Mo_isJob : MI → ML → Int32 → Prop) (Q_Mo_isJob : MI → ML → Int32 → Int32 → MI → ML → Prop) (P_Mo_in : MI → ML → Int32 → Int32 → Int32 → Prop) (Q_Mo_in : MI → ML → Int32 → Int32 → Int32 → Int32 → MI → ML → Prop) (P_Mo_search : MI → ML → Prop) (Q_Mo_search : MI → ML → MI → ML → Prop) (σ : MI) (τ : ML) (x1 : Int32) (x2 : Int32) (x3 : Int32) (x4 : Int32) (x5 : Int32) (K95 : Int32 → Int32 → Int32 → Int32 → Int32 → MI → ML → Prop) (K153 : Int32 → Int32 → Int32 → MI → ML → Prop) (R : Int32 → MI → ML → Prop) : Prop :=
  ((σ 29 10) ≤ x5 →
  (vp_in x1 7 ∧ (∀ s130 : MI, s130 = st2 σ 39 (Int32.toNatClampNeg x1) x2 → (vp_in x1 7 ∧ (∀ s137 : MI, s137 = st2 s130 40 (Int32.toNatClampNeg x1) x3 → (P_Mo_search s137 τ  ∧ ∀ (s139 : MI) (t139 : ML), Q_Mo_search s137 τ  s139 t139 → (∀ y151 : Int32, y151 = (s139 29 10) - 1 → (K153 x4 0 y151 s139 t139)))))))) ∧
  (¬ (σ 29 10) ≤ x5 →
  (vp_in x5 7 ∧ (∀ y116 : Int32, y116 = (5 * x4) + (σ 43 (Int32.toNatClampNeg x5)) → (∀ y118 : Int32, y118 = x5 + 1 → (K95 x1 x2 x3 y116 y118 σ τ)))))
def s_Mo_late_153 (P_Mo_isJob : MI → ML → Int32 → Prop) (Q_Mo_isJob : MI → ML → Int32 → Int32 → MI → ML → Prop) (P_Mo_in : MI → ML → Int32 → Int32 → Int32 → Prop) (Q_Mo_in : MI → ML → Int32 → Int32 → Int32 → Int32 → MI → ML → Prop) (P_Mo_search : MI → ML → Prop) (Q_Mo_search : MI → ML → MI → ML → Prop) (σ : MI) (τ : ML) (x4 : Int32) (x5 : Int32) (x6 : Int32) (K95 : Int32 → Int32 → Int32 → Int32 → Int32 → MI → ML → Prop) (K153 : Int32 → Int32 → Int32 → MI → ML → Prop) (R : Int32 → MI → ML → Prop) : Prop :=
  (x6 < 0 →
  (R x5 σ τ)) ∧
  (¬ x6 < 0 →
  (¬ (5 : Int32) = 0 ∧ (vp_in x6 7 ∧ (((x4 - x4 / 5 * 5) = (σ 43 (Int32.toNatClampNeg x6)) →
    (∀ y180 : Int32, y180 = x5 + 0 → (s_Mo_late_182 P_Mo_isJob Q_Mo_isJob P_Mo_in Q_Mo_in P_Mo_search Q_Mo_search σ τ x4 y180 x6 K95 K153 R))) ∧
    (¬ (x4 - x4 / 5 * 5) = (σ 43 (Int32.toNatClampNeg x6)) →
    (∀ y180 : Int32, y180 = x5 + 1 → (s_Mo_late_182 P_Mo_isJob Q_Mo_isJob P_Mo_in Q_Mo_in P_Mo_search Q_Mo_search σ τ x4 y180 x6 K95 K153 R)))))))
set_option maxHeartbeats 4000000 in
set_option maxRecDepth 100000 in
theorem k_Mo_late (l : Launch) (D : va_G) (ad : Nat → Nat) (ci cl : ClassId)
    (pre : MI → ML → Int32 → Int32 → Prop) (post : MI → ML → Int32 → Int32 → Int32 → MI → ML → Prop) (P_Mo_isJob : MI → ML → Int32 → Prop) (Q_Mo_isJob : MI → ML → Int32 → Int32 → MI → ML → Prop) (P_Mo_in : MI → ML → Int32 → Int32 → Int32 → Prop) (Q_Mo_in : MI → ML → Int32 → Int32 → Int32 → Int32 → MI → ML → Prop) (P_Mo_search : MI → ML → Prop) (Q_Mo_search : MI → ML → MI → ML → Prop)
    (h_Mo_isJob : ∀ (sz : Nat) (σ : MI) (τ : ML) (b0 : Int32), P_Mo_isJob σ τ b0 → gMi l D (xw ad ci cl) (xt ci cl) (xa ad) y_Mo_isJob w_Mo_isJob rm_Mo_isJob [.ref (ad 29), .int b0] sz σ τ (Q_Mo_isJob σ τ b0))
    (h_Mo_in : ∀ (sz : Nat) (σ : MI) (τ : ML) (b0 : Int32) (b1 : Int32) (b2 : Int32), P_Mo_in σ τ b0 b1 b2 → gMi l D (xw ad ci cl) (xt ci cl) (xa ad) y_Mo_in w_Mo_in rm_Mo_in [.int b0, .int b1, .int b2] sz σ τ (Q_Mo_in σ τ b0 b1 b2))
    (h_Mo_search : ∀ (sz : Nat) (σ : MI) (τ : ML), P_Mo_search σ τ → gMv l D (xw ad ci cl) (xt ci cl) (xa ad) y_Mo_search w_Mo_search rm_Mo_search [.ref (ad 29)] sz σ τ (Q_Mo_search σ τ))
    (I95 : MI → ML → Int32 → Int32 → Int32 → Int32 → Int32 → Int32 → Int32 → MI → ML → Prop) (m95 : MI → ML → Int32 → Int32 → Int32 → Int32 → Int32 → Int32 → Int32 → MI → ML → Nat)
    (I153 : MI → ML → Int32 → Int32 → Int32 → Int32 → Int32 → MI → ML → Prop) (m153 : MI → ML → Int32 → Int32 → Int32 → Int32 → Int32 → MI → ML → Nat)
    (v0 : ∀ (σ0 : MI) (τ0 : ML) (a1 : Int32) (a2 : Int32), pre σ0 τ0 a1 a2 → s_Mo_late_0 P_Mo_isJob Q_Mo_isJob P_Mo_in Q_Mo_in P_Mo_search Q_Mo_search σ0 τ0 a1 a2 (fun z0 z1 z2 z3 z4 σ9 τ9 => I95 σ0 τ0 a1 a2 z0 z1 z2 z3 z4 σ9 τ9) (fun z0 z1 z2 σ9 τ9 => I153 σ0 τ0 a1 a2 z0 z1 z2 σ9 τ9) (post σ0 τ0 a1 a2))
    (v95 : ∀ (σ0 : MI) (τ0 : ML) (a1 : Int32) (a2 : Int32) (x1 : Int32) (x2 : Int32) (x3 : Int32) (x4 : Int32) (x5 : Int32) (σ : MI) (τ : ML), I95 σ0 τ0 a1 a2 x1 x2 x3 x4 x5 σ τ → s_Mo_late_95 P_Mo_isJob Q_Mo_isJob P_Mo_in Q_Mo_in P_Mo_search Q_Mo_search σ τ x1 x2 x3 x4 x5 (fun z0 z1 z2 z3 z4 σ9 τ9 => I95 σ0 τ0 a1 a2 z0 z1 z2 z3 z4 σ9 τ9 ∧ m95 σ0 τ0 a1 a2 z0 z1 z2 z3 z4 σ9 τ9 < m95 σ0 τ0 a1 a2 x1 x2 x3 x4 x5 σ τ) (fun z0 z1 z2 σ9 τ9 => I153 σ0 τ0 a1 a2 z0 z1 z2 σ9 τ9 ∧ m153 σ0 τ0 a1 a2 z0 z1 z2 σ9 τ9 < m95 σ0 τ0 a1 a2 x1 x2 x3 x4 x5 σ τ) (post σ0 τ0 a1 a2))
    (v153 : ∀ (σ0 : MI) (τ0 : ML) (a1 : Int32) (a2 : Int32) (x4 : Int32) (x5 : Int32) (x6 : Int32) (σ : MI) (τ : ML), I153 σ0 τ0 a1 a2 x4 x5 x6 σ τ → s_Mo_late_153 P_Mo_isJob Q_Mo_isJob P_Mo_in Q_Mo_in P_Mo_search Q_Mo_search σ τ x4 x5 x6 (fun z0 z1 z2 z3 z4 σ9 τ9 => I95 σ0 τ0 a1 a2 z0 z1 z2 z3 z4 σ9 τ9 ∧ m95 σ0 τ0 a1 a2 z0 z1 z2 z3 z4 σ9 τ9 < m153 σ0 τ0 a1 a2 x4 x5 x6 σ τ) (fun z0 z1 z2 σ9 τ9 => I153 σ0 τ0 a1 a2 z0 z1 z2 σ9 τ9 ∧ m153 σ0 τ0 a1 a2 z0 z1 z2 σ9 τ9 < m153 σ0 τ0 a1 a2 x4 x5 x6 σ τ) (post σ0 τ0 a1 a2)) :
    ∀ (sz : Nat) (σ0 : MI) (τ0 : ML) (a1 : Int32) (a2 : Int32), pre σ0 τ0 a1 a2 → gMi l D (xw ad ci cl) (xt ci cl) (xa ad) y_Mo_late w_Mo_late rm_Mo_late [.ref (ad 29), .int a1, .int a2] sz σ0 τ0 (post σ0 τ0 a1 a2) := by
  intro sz σ0 τ0 a1 a2 hpre
  refine gk_ofWi (cc := b_Mo_late) (maxL := 7) (ret := (some .int)) (by decide) rfl xa_ok (Nat.le_of_ble_eq_true rfl) ?_
  intro p e s m below meth c ls hx hb hr hlocks hml hown hts hK hP hD hS hl
  have hl : lv_has ls 7 [(0, .ref (ad 29)), (1, .int a1), (2, .int a2)] := hl
  have hown : s.vm.findClass R_Mo = some m.cls := hown
  have hL : ∀ n : Nat, (∀ (x1 : Int32) (x2 : Int32) (x3 : Int32) (x4 : Int32) (x5 : Int32) (σ : MI) (τ : ML) (H : Heap) (locs : List Loc) (ls : Array Slot), m95 σ0 τ0 a1 a2 x1 x2 x3 x4 x5 σ τ < n → I95 σ0 τ0 a1 a2 x1 x2 x3 x4 x5 σ τ → va_P D classes ((xw ad ci cl) σ τ) H → va_D (gA (xa ad) s.heap.size) ((xw ad ci cl) σ τ) → va_S (gA (xa ad) s.heap.size) s.heap H locs → lv_has ls 7 [(0, .ref (ad 29)), (1, .int x1), (2, .int x2), (3, .int x3), (4, .int x4), (5, .int x5)] → W p l e rm_Mo_late s m [.ref (ad 29), .int a1, .int a2].toArray below meth c H locs 0 0 (gQi D (xw ad ci cl) (xt ci cl) (xa ad) below [.ref (ad 29), .int a1, .int a2] s (post σ0 τ0 a1 a2)) (F0 m 95 ls [])) ∧
      (∀ (x4 : Int32) (x5 : Int32) (x6 : Int32) (σ : MI) (τ : ML) (H : Heap) (locs : List Loc) (ls : Array Slot), m153 σ0 τ0 a1 a2 x4 x5 x6 σ τ < n → I153 σ0 τ0 a1 a2 x4 x5 x6 σ τ → va_P D classes ((xw ad ci cl) σ τ) H → va_D (gA (xa ad) s.heap.size) ((xw ad ci cl) σ τ) → va_S (gA (xa ad) s.heap.size) s.heap H locs → lv_has ls 7 [(0, .ref (ad 29)), (4, .int x4), (5, .int x5), (6, .int x6)] → W p l e rm_Mo_late s m [.ref (ad 29), .int a1, .int a2].toArray below meth c H locs 0 0 (gQi D (xw ad ci cl) (xt ci cl) (xa ad) below [.ref (ad 29), .int a1, .int a2] s (post σ0 τ0 a1 a2)) (F0 m 153 ls [])) := by
    intro n
    induction n with
    | zero => exact ⟨fun _ _ _ _ _ _ _ _ _ _ hn => absurd hn (Nat.not_lt_zero _), fun _ _ _ _ _ _ _ _ hn => absurd hn (Nat.not_lt_zero _)⟩
    | succ n ih =>
      refine ⟨?_, ?_⟩
      · intro x1 x2 x3 x4 x5 σ τ H locs ls hn hI hP hD hS hl
        have hv := v95 σ0 τ0 a1 a2 x1 x2 x3 x4 x5 σ τ hI
        unfold s_Mo_late_95 at hv
        refine lv_iload hx hb d_Mo_late_95 (lv_at hl 5 rfl) ?_
        refine lv_aload_n hx hb d_Mo_late_97 rfl (lv_at hl 0 rfl) ?_
        refine va_get (D := D) (ci := 7) (v := .int (σ 29 10)) (C := R_Mo) (T := F_Mo) (N := 24) hx hb hts iw_Mo hown hK hP 29 rfl rfl 10 (by decide) (hts _ t_w249) (fun _ h9 => h9) rfl d_Mo_late_98 ?_
        refine lv_icmp_ge (tgt := 124) hx hb d_Mo_late_101 (by decide) (fun hc => ?_) (fun hc => ?_)
        · replace hv := hv.1 hc
          refine lv_aload_n hx hb d_Mo_late_124 rfl (lv_at hl 0 rfl) ?_
          refine va_get (D := D) (ci := 7) (v := .ref (ad 39)) (C := R_Mo) (T := F_Mo) (N := 24) hx hb hts iw_Mo hown hK hP 29 rfl rfl 13 (by decide) (hts _ t_w273) (fun _ h9 => h9) rfl d_Mo_late_125 ?_
          refine lv_iload_n hx hb d_Mo_late_128 rfl (lv_at hl 1 rfl) ?_
          refine lv_iload_n hx hb d_Mo_late_129 rfl (lv_at hl 2 rfl) ?_
          obtain ⟨hi, hv⟩ := hv
          refine va_iast hx hb hK hP hD hS 39 0 rfl rfl hi d_Mo_late_130 (fun H locs hP hD hS => ?_)
          rw [xa_39] at hP hD
          obtain ⟨s130, es130⟩ : ∃ z : MI, z = st2 σ 39 (Int32.toNatClampNeg x1) x2 := ⟨_, rfl⟩
          rw [← es130] at hP hD
          replace hv := hv s130 es130
          refine lv_aload_n hx hb d_Mo_late_131 rfl (lv_at hl 0 rfl) ?_
          refine va_get (D := D) (ci := 7) (v := .ref (ad 40)) (C := R_Mo) (T := F_Mo) (N := 24) hx hb hts iw_Mo hown hK hP 29 rfl rfl 14 (by decide) (hts _ t_w274) (fun _ h9 => h9) rfl d_Mo_late_132 ?_
          refine lv_iload_n hx hb d_Mo_late_135 rfl (lv_at hl 1 rfl) ?_
          refine lv_iload_n hx hb d_Mo_late_136 rfl (lv_at hl 3 rfl) ?_
          obtain ⟨hi, hv⟩ := hv
          refine va_iast hx hb hK hP hD hS 40 0 rfl rfl hi d_Mo_late_137 (fun H locs hP hD hS => ?_)
          rw [xa_40] at hP hD
          obtain ⟨s137, es137⟩ : ∃ z : MI, z = st2 s130 40 (Int32.toNatClampNeg x1) x3 := ⟨_, rfl⟩
          rw [← es137] at hP hD
          replace hv := hv s137 es137
          refine lv_aload_n hx hb d_Mo_late_138 rfl (lv_at hl 0 rfl) ?_
          obtain ⟨hg, hv⟩ := hv
          refine gk_callVv (As := []) (rest := []) (b := ad 29) ⟨hx, hb, hml, hown, hts⟩ (h_Mo_search _ s137 τ  hg) (gk_cwV 0 hts t_w352 rfl rfl rfl (hts _ t_w349) (hts _ t_w350) (hts _ t_w351) (hts _ t_w252) (by decide +kernel) ⟨Nat.le_of_ble_eq_true rfl, Nat.le_of_ble_eq_true rfl⟩) hK hP hD hS (va_recv hK hP (ci := 7) (q0 := 29) rfl rfl) rfl hl.1 rfl (lv_room (Nat.le_of_ble_eq_true rfl)) d_Mo_late_139 ⟨Nat.zero_le _, Nat.zero_le _⟩ ?_
          intro s139 t139 H locs hw hP hD hS
          replace hv := hv s139 t139 hw
          refine lv_iconst (v := 0) hx hb d_Mo_late_142 (by decide) ?_
          refine lv_istore (lv' := [(5, .int 0), (0, .ref (ad 29)), (1, .int x1), (2, .int x2), (3, .int x3), (4, .int x4)]) hx hb d_Mo_late_143 hl (by decide) rfl (fun ls hl => ?_)
          refine lv_aload_n hx hb d_Mo_late_145 rfl (lv_at hl 1 rfl) ?_
          refine va_get (D := D) (ci := 7) (v := .int (s139 29 10)) (C := R_Mo) (T := F_Mo) (N := 24) hx hb hts iw_Mo hown hK hP 29 rfl rfl 10 (by decide) (hts _ t_w249) (fun _ h9 => h9) rfl d_Mo_late_146 ?_
          refine lv_iconst (v := 1) hx hb d_Mo_late_149 (by decide) ?_
          refine lv_isub hx hb d_Mo_late_150 ?_
          refine lv_topi (fun y151 ey151 => ?_)
          replace hv := hv y151 ey151
          refine lv_istore (lv' := [(6, .int y151), (5, .int 0), (0, .ref (ad 29)), (1, .int x1), (2, .int x2), (3, .int x3), (4, .int x4)]) hx hb d_Mo_late_151 hl (by decide) rfl (fun ls hl => ?_)
          obtain ⟨hI, hm⟩ := hv
          exact ih.2 x4 0 y151 s139 t139 _ _ _ (Nat.lt_of_lt_of_le hm (Nat.le_of_lt_succ hn)) hI hP hD hS (lv_sub hl [2, 6, 1, 0] rfl)
        · replace hv := hv.2 hc
          refine lv_iconst (v := 5) hx hb d_Mo_late_104 (by decide) ?_
          refine lv_iload hx hb d_Mo_late_105 (lv_at hl 4 rfl) ?_
          refine lv_imul hx hb d_Mo_late_107 ?_
          refine lv_aload_n hx hb d_Mo_late_108 rfl (lv_at hl 0 rfl) ?_
          refine va_get (D := D) (ci := 7) (v := .ref (ad 43)) (C := R_Mo) (T := F_Mo) (N := 24) hx hb hts iw_Mo hown hK hP 29 rfl rfl 19 (by decide) (hts _ t_w312) (fun _ h9 => h9) rfl d_Mo_late_109 ?_
          refine lv_iload hx hb d_Mo_late_112 (lv_at hl 5 rfl) ?_
          obtain ⟨hi, hv⟩ := hv
          refine va_iald hx hb hK hP 43 0 rfl rfl hi d_Mo_late_114 ?_
          refine lv_iadd hx hb d_Mo_late_115 ?_
          refine lv_topi (fun y116 ey116 => ?_)
          replace hv := hv y116 ey116
          refine lv_istore (lv' := [(4, .int y116), (0, .ref (ad 29)), (1, .int x1), (2, .int x2), (3, .int x3), (5, .int x5)]) hx hb d_Mo_late_116 hl (by decide) rfl (fun ls hl => ?_)
          obtain ⟨y118, ey118⟩ : ∃ z : Int32, z = x5 + 1 := ⟨_, rfl⟩
          replace hv := hv y118 ey118
          refine lv_iinc (v := y118) (lv' := [(5, .int y118), (4, .int y116), (0, .ref (ad 29)), (1, .int x1), (2, .int x2), (3, .int x3)]) hx hb d_Mo_late_118 hl (k := 5) rfl (by rw [ey118]; rfl) (by decide) rfl (fun ls hl => ?_)
          refine lv_goto (tgt := 95) hx hb d_Mo_late_121 (by decide) ?_
          obtain ⟨hI, hm⟩ := hv
          exact ih.1 x1 x2 x3 y116 y118 σ τ _ _ _ (Nat.lt_of_lt_of_le hm (Nat.le_of_lt_succ hn)) hI hP hD hS (lv_sub hl [2, 3, 4, 5, 1, 0] rfl)
      · intro x4 x5 x6 σ τ H locs ls hn hI hP hD hS hl
        have hv := v153 σ0 τ0 a1 a2 x4 x5 x6 σ τ hI
        unfold s_Mo_late_153 at hv
        have j182 : ∀ (w4 : Int32) (w5 : Int32) (w6 : Int32) (σ1 : MI) (τ1 : ML) (H : Heap) (locs : List Loc) (ls : Array Slot), s_Mo_late_182 P_Mo_isJob Q_Mo_isJob P_Mo_in Q_Mo_in P_Mo_search Q_Mo_search σ1 τ1 w4 w5 w6 (fun z0 z1 z2 z3 z4 σ9 τ9 => I95 σ0 τ0 a1 a2 z0 z1 z2 z3 z4 σ9 τ9 ∧ m95 σ0 τ0 a1 a2 z0 z1 z2 z3 z4 σ9 τ9 < m153 σ0 τ0 a1 a2 x4 x5 x6 σ τ) (fun z0 z1 z2 σ9 τ9 => I153 σ0 τ0 a1 a2 z0 z1 z2 σ9 τ9 ∧ m153 σ0 τ0 a1 a2 z0 z1 z2 σ9 τ9 < m153 σ0 τ0 a1 a2 x4 x5 x6 σ τ) (post σ0 τ0 a1 a2) → va_P D classes ((xw ad ci cl) σ1 τ1) H → va_D (gA (xa ad) s.heap.size) ((xw ad ci cl) σ1 τ1) → va_S (gA (xa ad) s.heap.size) s.heap H locs → lv_has ls 7 [(0, .ref (ad 29)), (4, .int w4), (5, .int w5), (6, .int w6)] → W p l e rm_Mo_late s m [.ref (ad 29), .int a1, .int a2].toArray below meth c H locs 0 0 (gQi D (xw ad ci cl) (xt ci cl) (xa ad) below [.ref (ad 29), .int a1, .int a2] s (post σ0 τ0 a1 a2)) (F0 m 182 ls []) := by
          intro w4 w5 w6 σ1 τ1 H locs ls hv hP hD hS hl
          unfold s_Mo_late_182 at hv
          refine lv_iload hx hb d_Mo_late_182 (lv_at hl 1 rfl) ?_
          refine lv_iconst (v := 5) hx hb d_Mo_late_184 (by decide) ?_
          obtain ⟨hne, hv⟩ := hv
          refine lv_idiv hx hb d_Mo_late_185 hne ?_
          refine lv_topi (fun y186 ey186 => ?_)
          replace hv := hv y186 ey186
          refine lv_istore (lv' := [(4, .int y186), (0, .ref (ad 29)), (5, .int w5), (6, .int w6)]) hx hb d_Mo_late_186 hl (by decide) rfl (fun ls hl => ?_)
          obtain ⟨y188, ey188⟩ : ∃ z : Int32, z = w6 + (-1) := ⟨_, rfl⟩
          replace hv := hv y188 ey188
          refine lv_iinc (v := y188) (lv' := [(6, .int y188), (4, .int y186), (0, .ref (ad 29)), (5, .int w5)]) hx hb d_Mo_late_188 hl (k := 3) rfl (by rw [ey188]; rfl) (by decide) rfl (fun ls hl => ?_)
          refine lv_goto (tgt := 153) hx hb d_Mo_late_191 (by decide) ?_
          obtain ⟨hI, hm⟩ := hv
          exact ih.2 y186 w5 y188 σ1 τ1 _ _ _ (Nat.lt_of_lt_of_le hm (Nat.le_of_lt_succ hn)) hI hP hD hS (lv_sub hl [2, 1, 3, 0] rfl)
        refine lv_iload hx hb d_Mo_late_153 (lv_at hl 3 rfl) ?_
        refine lv_if_lt (tgt := 194) hx hb d_Mo_late_155 (by decide) (fun hc => ?_) (fun hc => ?_)
        · replace hv := hv.1 hc
          refine lv_iload hx hb d_Mo_late_194 (lv_at hl 2 rfl) ?_
          exact gk_iret hx hb hr hlocks hK hP hD hS hv d_Mo_late_196
        · replace hv := hv.2 hc
          refine lv_iload hx hb d_Mo_late_158 (lv_at hl 2 rfl) ?_
          refine lv_iload hx hb d_Mo_late_160 (lv_at hl 1 rfl) ?_
          refine lv_iconst (v := 5) hx hb d_Mo_late_162 (by decide) ?_
          obtain ⟨hne, hv⟩ := hv
          refine lv_irem hx hb d_Mo_late_163 hne ?_
          refine lv_aload_n hx hb d_Mo_late_164 rfl (lv_at hl 0 rfl) ?_
          refine va_get (D := D) (ci := 7) (v := .ref (ad 43)) (C := R_Mo) (T := F_Mo) (N := 24) hx hb hts iw_Mo hown hK hP 29 rfl rfl 19 (by decide) (hts _ t_w312) (fun _ h9 => h9) rfl d_Mo_late_165 ?_
          refine lv_iload hx hb d_Mo_late_168 (lv_at hl 3 rfl) ?_
          obtain ⟨hi, hv⟩ := hv
          refine va_iald hx hb hK hP 43 0 rfl rfl hi d_Mo_late_170 ?_
          refine lv_icmp_eq (tgt := 178) hx hb d_Mo_late_171 (by decide) (fun hc => ?_) (fun hc => ?_)
          · replace hv := hv.1 hc
            refine lv_iconst (v := 0) hx hb d_Mo_late_178 (by decide) ?_
            refine lv_iadd hx hb d_Mo_late_179 ?_
            refine lv_topi (fun y180 ey180 => ?_)
            replace hv := hv y180 ey180
            refine lv_istore (lv' := [(5, .int y180), (0, .ref (ad 29)), (4, .int x4), (6, .int x6)]) hx hb d_Mo_late_180 hl (by decide) rfl (fun ls hl => ?_)
            exact j182 x4 y180 x6 σ τ _ _ _ hv hP hD hS (lv_sub hl [1, 2, 0, 3] rfl)
          · replace hv := hv.2 hc
            refine lv_iconst (v := 1) hx hb d_Mo_late_174 (by decide) ?_
            refine lv_goto (tgt := 179) hx hb d_Mo_late_175 (by decide) ?_
            refine lv_iadd hx hb d_Mo_late_179 ?_
            refine lv_topi (fun y180 ey180 => ?_)
            replace hv := hv y180 ey180
            refine lv_istore (lv' := [(5, .int y180), (0, .ref (ad 29)), (4, .int x4), (6, .int x6)]) hx hb d_Mo_late_180 hl (by decide) rfl (fun ls hl => ?_)
            exact j182 x4 y180 x6 σ τ _ _ _ hv hP hD hS (lv_sub hl [1, 2, 0, 3] rfl)
  have hv := v0 σ0 τ0 a1 a2 hpre
  unfold s_Mo_late_0 at hv
  have j80 : ∀ (w1 : Int32) (w2 : Int32) (w3 : Int32) (σ1 : MI) (τ1 : ML) (H : Heap) (locs : List Loc) (ls : Array Slot), s_Mo_late_80 P_Mo_isJob Q_Mo_isJob P_Mo_in Q_Mo_in P_Mo_search Q_Mo_search σ1 τ1 w1 w2 w3 (fun z0 z1 z2 z3 z4 σ9 τ9 => I95 σ0 τ0 a1 a2 z0 z1 z2 z3 z4 σ9 τ9) (fun z0 z1 z2 σ9 τ9 => I153 σ0 τ0 a1 a2 z0 z1 z2 σ9 τ9) (post σ0 τ0 a1 a2) → va_P D classes ((xw ad ci cl) σ1 τ1) H → va_D (gA (xa ad) s.heap.size) ((xw ad ci cl) σ1 τ1) → va_S (gA (xa ad) s.heap.size) s.heap H locs → lv_has ls 7 [(0, .ref (ad 29)), (1, .int w1), (2, .int w2), (3, .int w3)] → W p l e rm_Mo_late s m [.ref (ad 29), .int a1, .int a2].toArray below meth c H locs 0 0 (gQi D (xw ad ci cl) (xt ci cl) (xa ad) below [.ref (ad 29), .int a1, .int a2] s (post σ0 τ0 a1 a2)) (F0 m 80 ls []) := by
    intro w1 w2 w3 σ1 τ1 H locs ls hv hP hD hS hl
    unfold s_Mo_late_80 at hv
    refine lv_aload_n hx hb d_Mo_late_80 rfl (lv_at hl 0 rfl) ?_
    refine va_get (D := D) (ci := 7) (v := .int (σ1 29 0)) (C := R_Mo) (T := F_Mo) (N := 24) hx hb hts iw_Mo hown hK hP 29 rfl rfl 0 (by decide) (hts _ t_w247) (fun _ h9 => h9) rfl d_Mo_late_81 ?_
    refine lv_if_le (tgt := 89) hx hb d_Mo_late_84 (by decide) (fun hc => ?_) (fun hc => ?_)
    · replace hv := hv.1 hc
      refine lv_iconst (v := 0) hx hb d_Mo_late_89 (by decide) ?_
      refine lv_istore (lv' := [(4, .int 0), (0, .ref (ad 29)), (1, .int w1), (2, .int w2), (3, .int w3)]) hx hb d_Mo_late_90 hl (by decide) rfl (fun ls hl => ?_)
      refine lv_iconst (v := 0) hx hb d_Mo_late_92 (by decide) ?_
      refine lv_istore (lv' := [(5, .int 0), (4, .int 0), (0, .ref (ad 29)), (1, .int w1), (2, .int w2), (3, .int w3)]) hx hb d_Mo_late_93 hl (by decide) rfl (fun ls hl => ?_)
      exact (hL _).1 w1 w2 w3 0 0 σ1 τ1 _ _ _ (Nat.lt_succ_self _) hv hP hD hS (lv_sub hl [2, 3, 4, 5, 1, 0] rfl)
    · replace hv := hv.2 hc
      refine lv_iconst (v := 0) hx hb d_Mo_late_87 (by decide) ?_
      exact gk_iret hx hb hr hlocks hK hP hD hS hv d_Mo_late_88
  have j41 : ∀ (w1 : Int32) (w2 : Int32) (w3 : Int32) (σ1 : MI) (τ1 : ML) (H : Heap) (locs : List Loc) (ls : Array Slot), s_Mo_late_41 P_Mo_isJob Q_Mo_isJob P_Mo_in Q_Mo_in P_Mo_search Q_Mo_search σ1 τ1 w1 w2 w3 (fun z0 z1 z2 z3 z4 σ9 τ9 => I95 σ0 τ0 a1 a2 z0 z1 z2 z3 z4 σ9 τ9) (fun z0 z1 z2 σ9 τ9 => I153 σ0 τ0 a1 a2 z0 z1 z2 σ9 τ9) (post σ0 τ0 a1 a2) → va_P D classes ((xw ad ci cl) σ1 τ1) H → va_D (gA (xa ad) s.heap.size) ((xw ad ci cl) σ1 τ1) → va_S (gA (xa ad) s.heap.size) s.heap H locs → lv_has ls 7 [(0, .ref (ad 29)), (1, .int w1), (2, .int w2), (3, .int w3)] → W p l e rm_Mo_late s m [.ref (ad 29), .int a1, .int a2].toArray below meth c H locs 0 0 (gQi D (xw ad ci cl) (xt ci cl) (xa ad) below [.ref (ad 29), .int a1, .int a2] s (post σ0 τ0 a1 a2)) (F0 m 41 ls []) := by
    intro w1 w2 w3 σ1 τ1 H locs ls hv hP hD hS hl
    unfold s_Mo_late_41 at hv
    refine lv_aload_n hx hb d_Mo_late_41 rfl (lv_at hl 0 rfl) ?_
    refine lv_aload_n hx hb d_Mo_late_42 rfl (lv_at hl 0 rfl) ?_
    refine lv_iload_n hx hb d_Mo_late_43 rfl (lv_at hl 1 rfl) ?_
    obtain ⟨hg, hv⟩ := hv
    refine gk_callVi (As := [.int w1]) (rest := [.ref (ad 29)]) (b := ad 29) ⟨hx, hb, hml, hown, hts⟩ (h_Mo_isJob _ σ1 τ1 w1 hg) (gk_cwV 1 hts t_w368 rfl rfl rfl (hts _ t_w365) (hts _ t_w366) (hts _ t_w367) (hts _ t_w252) (by decide +kernel) ⟨Nat.le_of_ble_eq_true rfl, Nat.le_of_ble_eq_true rfl⟩) hK hP hD hS (va_recv hK hP (ci := 7) (q0 := 29) rfl rfl) rfl hl.1 rfl (lv_room (Nat.le_of_ble_eq_true rfl)) d_Mo_late_44 ⟨Nat.zero_le _, Nat.zero_le _⟩ ?_
    intro r44 s44 t44 H locs hw hP hD hS
    replace hv := hv r44 s44 t44 hw
    refine lv_if_ne (tgt := 54) hx hb d_Mo_late_47 (by decide) (fun hc => ?_) (fun hc => ?_)
    · replace hv := hv.1 hc
      refine lv_iload_n hx hb d_Mo_late_54 rfl (lv_at hl 3 rfl) ?_
      refine lv_sipush (v := 2880) hx hb d_Mo_late_55 (by decide) ?_
      refine lv_icmp_le (tgt := 65) hx hb d_Mo_late_58 (by decide) (fun hc => ?_) (fun hc => ?_)
      · replace hv := hv.1 hc
        refine lv_aload_n hx hb d_Mo_late_65 rfl (lv_at hl 0 rfl) ?_
        refine va_get (D := D) (ci := 7) (v := .int (s44 29 18)) (C := R_Mo) (T := F_Mo) (N := 24) hx hb hts iw_Mo hown hK hP 29 rfl rfl 18 (by decide) (hts _ t_w268) (fun _ h9 => h9) rfl d_Mo_late_66 ?_
        refine lv_if_eq (tgt := 76) hx hb d_Mo_late_69 (by decide) (fun hc => ?_) (fun hc => ?_)
        · replace hv := hv.1 hc
          refine lv_iconst (v := 3) hx hb d_Mo_late_76 (by decide) ?_
          refine va_put (D := D) (ci := 7) (v := .int 3) (ty := .int) (fs := [.int (s44 29 0), .int (s44 29 1), .ref (ad 30), .ref (ad 31), .ref (ad 32), .ref (ad 33), .ref (ad 34), .ref (ad 35), .int (s44 29 8), .ref (ad 36), .int (s44 29 10), .ref (ad 37), .ref (ad 38), .ref (ad 39), .ref (ad 40), .ref (ad 41), .ref (ad 42), .int (s44 29 17), .int (s44 29 18), .ref (ad 43), .ref (ad 44), .int (s44 29 21), .ref (ad 45), .ref (ad 46)]) (C := R_Mo) (T := F_Mo) (N := 24) hx hb hts iw_Mo ty_Mo ty_Mo_ok nn_Mo hown hK hP hD hS 29 rfl rfl 0 (by decide) (hts _ t_w247) (fun _ h9 => h9) rfl (by decide +kernel) rfl rfl (Nat.le_of_ble_eq_true rfl) d_Mo_late_77 (fun H locs hP hD hS => ?_)
          rw [xf_29_0] at hP hD
          obtain ⟨s77, es77⟩ : ∃ z : MI, z = st2 s44 29 0 3 := ⟨_, rfl⟩
          rw [← es77] at hP hD
          replace hv := hv s77 es77
          exact j80 w1 w2 w3 s77 t44 _ _ _ hv hP hD hS (lv_sub hl [0, 1, 2, 3] rfl)
        · replace hv := hv.2 hc
          refine lv_iconst (v := 0) hx hb d_Mo_late_72 (by decide) ?_
          refine lv_goto (tgt := 77) hx hb d_Mo_late_73 (by decide) ?_
          refine va_put (D := D) (ci := 7) (v := .int 0) (ty := .int) (fs := [.int (s44 29 0), .int (s44 29 1), .ref (ad 30), .ref (ad 31), .ref (ad 32), .ref (ad 33), .ref (ad 34), .ref (ad 35), .int (s44 29 8), .ref (ad 36), .int (s44 29 10), .ref (ad 37), .ref (ad 38), .ref (ad 39), .ref (ad 40), .ref (ad 41), .ref (ad 42), .int (s44 29 17), .int (s44 29 18), .ref (ad 43), .ref (ad 44), .int (s44 29 21), .ref (ad 45), .ref (ad 46)]) (C := R_Mo) (T := F_Mo) (N := 24) hx hb hts iw_Mo ty_Mo ty_Mo_ok nn_Mo hown hK hP hD hS 29 rfl rfl 0 (by decide) (hts _ t_w247) (fun _ h9 => h9) rfl (by decide +kernel) rfl rfl (Nat.le_of_ble_eq_true rfl) d_Mo_late_77 (fun H locs hP hD hS => ?_)
          rw [xf_29_0] at hP hD
          obtain ⟨s77, es77⟩ : ∃ z : MI, z = st2 s44 29 0 0 := ⟨_, rfl⟩
          rw [← es77] at hP hD
          replace hv := hv s77 es77
          exact j80 w1 w2 w3 s77 t44 _ _ _ hv hP hD hS (lv_sub hl [0, 1, 2, 3] rfl)
      · replace hv := hv.2 hc
        refine lv_iconst (v := 2) hx hb d_Mo_late_61 (by decide) ?_
        refine lv_goto (tgt := 77) hx hb d_Mo_late_62 (by decide) ?_
        refine va_put (D := D) (ci := 7) (v := .int 2) (ty := .int) (fs := [.int (s44 29 0), .int (s44 29 1), .ref (ad 30), .ref (ad 31), .ref (ad 32), .ref (ad 33), .ref (ad 34), .ref (ad 35), .int (s44 29 8), .ref (ad 36), .int (s44 29 10), .ref (ad 37), .ref (ad 38), .ref (ad 39), .ref (ad 40), .ref (ad 41), .ref (ad 42), .int (s44 29 17), .int (s44 29 18), .ref (ad 43), .ref (ad 44), .int (s44 29 21), .ref (ad 45), .ref (ad 46)]) (C := R_Mo) (T := F_Mo) (N := 24) hx hb hts iw_Mo ty_Mo ty_Mo_ok nn_Mo hown hK hP hD hS 29 rfl rfl 0 (by decide) (hts _ t_w247) (fun _ h9 => h9) rfl (by decide +kernel) rfl rfl (Nat.le_of_ble_eq_true rfl) d_Mo_late_77 (fun H locs hP hD hS => ?_)
        rw [xf_29_0] at hP hD
        obtain ⟨s77, es77⟩ : ∃ z : MI, z = st2 s44 29 0 2 := ⟨_, rfl⟩
        rw [← es77] at hP hD
        replace hv := hv s77 es77
        exact j80 w1 w2 w3 s77 t44 _ _ _ hv hP hD hS (lv_sub hl [0, 1, 2, 3] rfl)
    · replace hv := hv.2 hc
      refine lv_iconst (v := 1) hx hb d_Mo_late_50 (by decide) ?_
      refine lv_goto (tgt := 77) hx hb d_Mo_late_51 (by decide) ?_
      refine va_put (D := D) (ci := 7) (v := .int 1) (ty := .int) (fs := [.int (s44 29 0), .int (s44 29 1), .ref (ad 30), .ref (ad 31), .ref (ad 32), .ref (ad 33), .ref (ad 34), .ref (ad 35), .int (s44 29 8), .ref (ad 36), .int (s44 29 10), .ref (ad 37), .ref (ad 38), .ref (ad 39), .ref (ad 40), .ref (ad 41), .ref (ad 42), .int (s44 29 17), .int (s44 29 18), .ref (ad 43), .ref (ad 44), .int (s44 29 21), .ref (ad 45), .ref (ad 46)]) (C := R_Mo) (T := F_Mo) (N := 24) hx hb hts iw_Mo ty_Mo ty_Mo_ok nn_Mo hown hK hP hD hS 29 rfl rfl 0 (by decide) (hts _ t_w247) (fun _ h9 => h9) rfl (by decide +kernel) rfl rfl (Nat.le_of_ble_eq_true rfl) d_Mo_late_77 (fun H locs hP hD hS => ?_)
      rw [xf_29_0] at hP hD
      obtain ⟨s77, es77⟩ : ∃ z : MI, z = st2 s44 29 0 1 := ⟨_, rfl⟩
      rw [← es77] at hP hD
      replace hv := hv s77 es77
      exact j80 w1 w2 w3 s77 t44 _ _ _ hv hP hD hS (lv_sub hl [0, 1, 2, 3] rfl)
  refine lv_aload_n hx hb d_Mo_late_0 rfl (lv_at hl 0 rfl) ?_
  refine lv_iload_n hx hb d_Mo_late_1 rfl (lv_at hl 1 rfl) ?_
  obtain ⟨hg, hv⟩ := hv
  refine gk_callVi (As := [.int a1]) (rest := []) (b := ad 29) ⟨hx, hb, hml, hown, hts⟩ (h_Mo_isJob _ σ0 τ0 a1 hg) (gk_cwV 1 hts t_w368 rfl rfl rfl (hts _ t_w365) (hts _ t_w366) (hts _ t_w367) (hts _ t_w252) (by decide +kernel) ⟨Nat.le_of_ble_eq_true rfl, Nat.le_of_ble_eq_true rfl⟩) hK hP hD hS (va_recv hK hP (ci := 7) (q0 := 29) rfl rfl) rfl hl.1 rfl (lv_room (Nat.le_of_ble_eq_true rfl)) d_Mo_late_2 ⟨Nat.zero_le _, Nat.zero_le _⟩ ?_
  intro r2 s2 t2 H locs hw hP hD hS
  replace hv := hv r2 s2 t2 hw
  refine lv_if_eq (tgt := 37) hx hb d_Mo_late_5 (by decide) (fun hc => ?_) (fun hc => ?_)
  · replace hv := hv.1 hc
    refine lv_sipush (v := 2881) hx hb d_Mo_late_37 (by decide) ?_
    refine lv_istore_n (lv' := [(3, .int 2881), (0, .ref (ad 29)), (1, .int a1), (2, .int a2)]) hx hb d_Mo_late_40 rfl hl (by decide) rfl (fun ls hl => ?_)
    exact j41 a1 a2 2881 s2 t2 _ _ _ hv hP hD hS (lv_sub hl [1, 2, 3, 0] rfl)
  · replace hv := hv.2 hc
    refine lv_iload_n hx hb d_Mo_late_8 rfl (lv_at hl 2 rfl) ?_
    refine lv_iconst (v := 0) hx hb d_Mo_late_9 (by decide) ?_
    refine lv_sipush (v := 2880) hx hb d_Mo_late_10 (by decide) ?_
    obtain ⟨hg, hv⟩ := hv
    refine gk_callSi (As := [.int a2, .int 0, .int 2880]) (rest := []) ⟨hx, hb, hml, hown, hts⟩ (h_Mo_in _ s2 t2 a2 0 2880 hg) (gk_cwS 3 hts t_w253 rfl rfl rfl (hts _ t_w250) (hts _ t_w251) (hts _ t_w252) (by decide +kernel) ⟨Nat.le_of_ble_eq_true rfl, Nat.le_of_ble_eq_true rfl⟩) hK hP hD hS rfl hl.1 rfl (lv_room (Nat.le_of_ble_eq_true rfl)) d_Mo_late_13 ⟨Nat.zero_le _, Nat.zero_le _⟩ ?_
    intro r13 s13 t13 H locs hw hP hD hS
    replace hv := hv r13 s13 t13 hw
    refine lv_if_eq (tgt := 37) hx hb d_Mo_late_16 (by decide) (fun hc => ?_) (fun hc => ?_)
    · replace hv := hv.1 hc
      refine lv_sipush (v := 2881) hx hb d_Mo_late_37 (by decide) ?_
      refine lv_istore_n (lv' := [(3, .int 2881), (0, .ref (ad 29)), (1, .int a1), (2, .int a2)]) hx hb d_Mo_late_40 rfl hl (by decide) rfl (fun ls hl => ?_)
      exact j41 a1 a2 2881 s13 t13 _ _ _ hv hP hD hS (lv_sub hl [1, 2, 3, 0] rfl)
    · replace hv := hv.2 hc
      refine lv_iload_n hx hb d_Mo_late_19 rfl (lv_at hl 2 rfl) ?_
      refine lv_aload_n hx hb d_Mo_late_20 rfl (lv_at hl 0 rfl) ?_
      refine va_get (D := D) (ci := 7) (v := .ref (ad 40)) (C := R_Mo) (T := F_Mo) (N := 24) hx hb hts iw_Mo hown hK hP 29 rfl rfl 14 (by decide) (hts _ t_w274) (fun _ h9 => h9) rfl d_Mo_late_21 ?_
      refine lv_iload_n hx hb d_Mo_late_24 rfl (lv_at hl 1 rfl) ?_
      obtain ⟨hi, hv⟩ := hv
      refine va_iald hx hb hK hP 40 0 rfl rfl hi d_Mo_late_25 ?_
      refine lv_iadd hx hb d_Mo_late_26 ?_
      refine lv_aload_n hx hb d_Mo_late_27 rfl (lv_at hl 0 rfl) ?_
      refine va_get (D := D) (ci := 7) (v := .ref (ad 39)) (C := R_Mo) (T := F_Mo) (N := 24) hx hb hts iw_Mo hown hK hP 29 rfl rfl 13 (by decide) (hts _ t_w273) (fun _ h9 => h9) rfl d_Mo_late_28 ?_
      refine lv_iload_n hx hb d_Mo_late_31 rfl (lv_at hl 1 rfl) ?_
      obtain ⟨hi, hv⟩ := hv
      refine va_iald hx hb hK hP 39 0 rfl rfl hi d_Mo_late_32 ?_
      refine lv_isub hx hb d_Mo_late_33 ?_
      refine lv_goto (tgt := 40) hx hb d_Mo_late_34 (by decide) ?_
      refine lv_topi (fun y40 ey40 => ?_)
      replace hv := hv y40 ey40
      refine lv_istore_n (lv' := [(3, .int y40), (0, .ref (ad 29)), (1, .int a1), (2, .int a2)]) hx hb d_Mo_late_40 rfl hl (by decide) rfl (fun ls hl => ?_)
      exact j41 a1 a2 y40 s13 t13 _ _ _ hv hP hD hS (lv_sub hl [1, 2, 3, 0] rfl)
theorem d_Mo_day_0 : decode b_Mo_day 0 = .ok (.aload_n 0, 1) := by decide +kernel
theorem d_Mo_day_1 : decode b_Mo_day 1 = .ok (.aload_n 0, 1) := by decide +kernel
theorem d_Mo_day_2 : decode b_Mo_day 2 = .ok (.iload_n 1, 1) := by decide +kernel
theorem d_Mo_day_3 : decode b_Mo_day 3 = .ok (.invokevirtual 97, 3) := by decide +kernel
theorem d_Mo_day_6 : decode b_Mo_day 6 = .ok (.ifCond .ne 7, 3) := by decide +kernel
theorem d_Mo_day_9 : decode b_Mo_day 9 = .ok (.iconst 1, 1) := by decide +kernel
theorem d_Mo_day_10 : decode b_Mo_day 10 = .ok (.goto 15, 3) := by decide +kernel
theorem d_Mo_day_13 : decode b_Mo_day 13 = .ok (.aload_n 0, 1) := by decide +kernel
theorem d_Mo_day_14 : decode b_Mo_day 14 = .ok (.getfield 87, 3) := by decide +kernel
theorem d_Mo_day_17 : decode b_Mo_day 17 = .ok (.ifCond .eq 7, 3) := by decide +kernel
theorem d_Mo_day_20 : decode b_Mo_day 20 = .ok (.iconst 0, 1) := by decide +kernel
theorem d_Mo_day_21 : decode b_Mo_day 21 = .ok (.goto 4, 3) := by decide +kernel
theorem d_Mo_day_24 : decode b_Mo_day 24 = .ok (.iconst 2, 1) := by decide +kernel
theorem d_Mo_day_25 : decode b_Mo_day 25 = .ok (.putfield 61, 3) := by decide +kernel
theorem d_Mo_day_28 : decode b_Mo_day 28 = .ok (.aload_n 0, 1) := by decide +kernel
theorem d_Mo_day_29 : decode b_Mo_day 29 = .ok (.getfield 61, 3) := by decide +kernel
theorem d_Mo_day_32 : decode b_Mo_day 32 = .ok (.ifCond .le 5, 3) := by decide +kernel
theorem d_Mo_day_35 : decode b_Mo_day 35 = .ok (.iconst 0, 1) := by decide +kernel
theorem d_Mo_day_36 : decode b_Mo_day 36 = .ok (.ireturn, 1) := by decide +kernel
theorem d_Mo_day_37 : decode b_Mo_day 37 = .ok (.iload_n 2, 1) := by decide +kernel
theorem d_Mo_day_38 : decode b_Mo_day 38 = .ok (.istore_n 3, 1) := by decide +kernel
theorem d_Mo_day_39 : decode b_Mo_day 39 = .ok (.iload_n 2, 1) := by decide +kernel
theorem d_Mo_day_40 : decode b_Mo_day 40 = .ok (.ifCond .ge 7, 3) := by decide +kernel
theorem d_Mo_day_43 : decode b_Mo_day 43 = .ok (.iconst (-1), 1) := by decide +kernel
theorem d_Mo_day_44 : decode b_Mo_day 44 = .ok (.goto 13, 3) := by decide +kernel
theorem d_Mo_day_47 : decode b_Mo_day 47 = .ok (.aload_n 0, 1) := by decide +kernel
theorem d_Mo_day_48 : decode b_Mo_day 48 = .ok (.aload_n 0, 1) := by decide +kernel
theorem d_Mo_day_49 : decode b_Mo_day 49 = .ok (.iload_n 1, 1) := by decide +kernel
theorem d_Mo_day_50 : decode b_Mo_day 50 = .ok (.invokevirtual 149, 3) := by decide +kernel
theorem d_Mo_day_53 : decode b_Mo_day 53 = .ok (.iconst (-1), 1) := by decide +kernel
theorem d_Mo_day_54 : decode b_Mo_day 54 = .ok (.invokevirtual 100, 3) := by decide +kernel
theorem d_Mo_day_57 : decode b_Mo_day 57 = .ok (.istore 4, 2) := by decide +kernel
theorem d_Mo_day_59 : decode b_Mo_day 59 = .ok (.iload 4, 2) := by decide +kernel
theorem d_Mo_day_61 : decode b_Mo_day 61 = .ok (.ifCond .lt 26, 3) := by decide +kernel
theorem d_Mo_day_64 : decode b_Mo_day 64 = .ok (.iload_n 3, 1) := by decide +kernel
theorem d_Mo_day_65 : decode b_Mo_day 65 = .ok (.ifCond .le 22, 3) := by decide +kernel
theorem d_Mo_day_68 : decode b_Mo_day 68 = .ok (.aload_n 0, 1) := by decide +kernel
theorem d_Mo_day_69 : decode b_Mo_day 69 = .ok (.aload_n 0, 1) := by decide +kernel
theorem d_Mo_day_70 : decode b_Mo_day 70 = .ok (.iload_n 1, 1) := by decide +kernel
theorem d_Mo_day_71 : decode b_Mo_day 71 = .ok (.invokevirtual 149, 3) := by decide +kernel
theorem d_Mo_day_74 : decode b_Mo_day 74 = .ok (.iload 4, 2) := by decide +kernel
theorem d_Mo_day_76 : decode b_Mo_day 76 = .ok (.invokevirtual 100, 3) := by decide +kernel
theorem d_Mo_day_79 : decode b_Mo_day 79 = .ok (.istore 4, 2) := by decide +kernel
theorem d_Mo_day_81 : decode b_Mo_day 81 = .ok (.iinc 3 (-1), 3) := by decide +kernel
theorem d_Mo_day_84 : decode b_Mo_day 84 = .ok (.goto (-25), 3) := by decide +kernel
theorem d_Mo_day_87 : decode b_Mo_day 87 = .ok (.iload 4, 2) := by decide +kernel
theorem d_Mo_day_89 : decode b_Mo_day 89 = .ok (.ireturn, 1) := by decide +kernel
def s_Mo_day_28 (P_Mo_isPerson : MI → ML → Int32 → Prop) (Q_Mo_isPerson : MI → ML → Int32 → Int32 → MI → ML → Prop) (P_Mo_givenTo : MI → ML → Int32 → Prop) (Q_Mo_givenTo : MI → ML → Int32 → Int32 → MI → ML → Prop) (P_Mo_next : MI → ML → Int32 → Int32 → Prop) (Q_Mo_next : MI → ML → Int32 → Int32 → Int32 → MI → ML → Prop) (σ : MI) (τ : ML) (x1 : Int32) (x2 : Int32) (K59 : Int32 → Int32 → Int32 → MI → ML → Prop) (R : Int32 → MI → ML → Prop) : Prop :=
  ((σ 29 0) ≤ 0 →
  ((0 ≤ x2 →
    (P_Mo_givenTo σ τ x1 ∧ ∀ (r50 : Int32) (s50 : MI) (t50 : ML), Q_Mo_givenTo σ τ x1 r50 s50 t50 → (P_Mo_next s50 t50 r50 ((-1)) ∧ ∀ (r54 : Int32) (s54 : MI) (t54 : ML), Q_Mo_next s50 t50 r50 ((-1)) r54 s54 t54 → (K59 x1 x2 r54 s54 t54)))) ∧
    (¬ 0 ≤ x2 →
    (∀ y57 : Int32, y57 = (-1) → (K59 x1 x2 y57 σ τ))))) ∧
  (¬ (σ 29 0) ≤ 0 →
  (R 0 σ τ))
def s_Mo_day_0 (P_Mo_isPerson : MI → ML → Int32 → Prop) (Q_Mo_isPerson : MI → ML → Int32 → Int32 → MI → ML → Prop) (P_Mo_givenTo : MI → ML → Int32 → Prop) (Q_Mo_givenTo : MI → ML → Int32 → Int32 → MI → ML → Prop) (P_Mo_next : MI → ML → Int32 → Int32 → Prop) (Q_Mo_next : MI → ML → Int32 → Int32 → Int32 → MI → ML → Prop) (σ : MI) (τ : ML) (a1 : Int32) (a2 : Int32) (K59 : Int32 → Int32 → Int32 → MI → ML → Prop) (R : Int32 → MI → ML → Prop) : Prop :=
  P_Mo_isPerson σ τ a1 ∧ ∀ (r3 : Int32) (s3 : MI) (t3 : ML), Q_Mo_isPerson σ τ a1 r3 s3 t3 → ((¬ r3 = 0 →
  (((s3 29 18) = 0 →
    (∀ s25 : MI, s25 = st2 s3 29 0 2 → (s_Mo_day_28 P_Mo_isPerson Q_Mo_isPerson P_Mo_givenTo Q_Mo_givenTo P_Mo_next Q_Mo_next s25 t3 a1 a2 K59 R))) ∧
    (¬ (s3 29 18) = 0 →
    (∀ s25 : MI, s25 = st2 s3 29 0 0 → (s_Mo_day_28 P_Mo_isPerson Q_Mo_isPerson P_Mo_givenTo Q_Mo_givenTo P_Mo_next Q_Mo_next s25 t3 a1 a2 K59 R))))) ∧
  (r3 = 0 →
  (∀ s25 : MI, s25 = st2 s3 29 0 1 → (s_Mo_day_28 P_Mo_isPerson Q_Mo_isPerson P_Mo_givenTo Q_Mo_givenTo P_Mo_next Q_Mo_next s25 t3 a1 a2 K59 R))))
def s_Mo_day_59 (P_Mo_isPerson : MI → ML → Int32 → Prop) (Q_Mo_isPerson : MI → ML → Int32 → Int32 → MI → ML → Prop) (P_Mo_givenTo : MI → ML → Int32 → Prop) (Q_Mo_givenTo : MI → ML → Int32 → Int32 → MI → ML → Prop) (P_Mo_next : MI → ML → Int32 → Int32 → Prop) (Q_Mo_next : MI → ML → Int32 → Int32 → Int32 → MI → ML → Prop) (σ : MI) (τ : ML) (x1 : Int32) (x3 : Int32) (x4 : Int32) (K59 : Int32 → Int32 → Int32 → MI → ML → Prop) (R : Int32 → MI → ML → Prop) : Prop :=
  (x4 < 0 →
  (R x4 σ τ)) ∧
  (¬ x4 < 0 →
  ((x3 ≤ 0 →
    (R x4 σ τ)) ∧
    (¬ x3 ≤ 0 →
    (P_Mo_givenTo σ τ x1 ∧ ∀ (r71 : Int32) (s71 : MI) (t71 : ML), Q_Mo_givenTo σ τ x1 r71 s71 t71 → (P_Mo_next s71 t71 r71 x4 ∧ ∀ (r76 : Int32) (s76 : MI) (t76 : ML), Q_Mo_next s71 t71 r71 x4 r76 s76 t76 → (∀ y81 : Int32, y81 = x3 + (-1) → (K59 x1 y81 r76 s76 t76)))))))
set_option maxHeartbeats 4000000 in
set_option maxRecDepth 100000 in
theorem k_Mo_day (l : Launch) (D : va_G) (ad : Nat → Nat) (ci cl : ClassId)
    (pre : MI → ML → Int32 → Int32 → Prop) (post : MI → ML → Int32 → Int32 → Int32 → MI → ML → Prop) (P_Mo_isPerson : MI → ML → Int32 → Prop) (Q_Mo_isPerson : MI → ML → Int32 → Int32 → MI → ML → Prop) (P_Mo_givenTo : MI → ML → Int32 → Prop) (Q_Mo_givenTo : MI → ML → Int32 → Int32 → MI → ML → Prop) (P_Mo_next : MI → ML → Int32 → Int32 → Prop) (Q_Mo_next : MI → ML → Int32 → Int32 → Int32 → MI → ML → Prop)
    (h_Mo_isPerson : ∀ (sz : Nat) (σ : MI) (τ : ML) (b0 : Int32), P_Mo_isPerson σ τ b0 → gMi l D (xw ad ci cl) (xt ci cl) (xa ad) y_Mo_isPerson w_Mo_isPerson rm_Mo_isPerson [.ref (ad 29), .int b0] sz σ τ (Q_Mo_isPerson σ τ b0))
    (h_Mo_givenTo : ∀ (sz : Nat) (σ : MI) (τ : ML) (b0 : Int32), P_Mo_givenTo σ τ b0 → gMi l D (xw ad ci cl) (xt ci cl) (xa ad) y_Mo_givenTo w_Mo_givenTo rm_Mo_givenTo [.ref (ad 29), .int b0] sz σ τ (Q_Mo_givenTo σ τ b0))
    (h_Mo_next : ∀ (sz : Nat) (σ : MI) (τ : ML) (b0 : Int32) (b1 : Int32), P_Mo_next σ τ b0 b1 → gMi l D (xw ad ci cl) (xt ci cl) (xa ad) y_Mo_next w_Mo_next rm_Mo_next [.ref (ad 29), .int b0, .int b1] sz σ τ (Q_Mo_next σ τ b0 b1))
    (I59 : MI → ML → Int32 → Int32 → Int32 → Int32 → Int32 → MI → ML → Prop) (m59 : MI → ML → Int32 → Int32 → Int32 → Int32 → Int32 → MI → ML → Nat)
    (v0 : ∀ (σ0 : MI) (τ0 : ML) (a1 : Int32) (a2 : Int32), pre σ0 τ0 a1 a2 → s_Mo_day_0 P_Mo_isPerson Q_Mo_isPerson P_Mo_givenTo Q_Mo_givenTo P_Mo_next Q_Mo_next σ0 τ0 a1 a2 (fun z0 z1 z2 σ9 τ9 => I59 σ0 τ0 a1 a2 z0 z1 z2 σ9 τ9) (post σ0 τ0 a1 a2))
    (v59 : ∀ (σ0 : MI) (τ0 : ML) (a1 : Int32) (a2 : Int32) (x1 : Int32) (x3 : Int32) (x4 : Int32) (σ : MI) (τ : ML), I59 σ0 τ0 a1 a2 x1 x3 x4 σ τ → s_Mo_day_59 P_Mo_isPerson Q_Mo_isPerson P_Mo_givenTo Q_Mo_givenTo P_Mo_next Q_Mo_next σ τ x1 x3 x4 (fun z0 z1 z2 σ9 τ9 => I59 σ0 τ0 a1 a2 z0 z1 z2 σ9 τ9 ∧ m59 σ0 τ0 a1 a2 z0 z1 z2 σ9 τ9 < m59 σ0 τ0 a1 a2 x1 x3 x4 σ τ) (post σ0 τ0 a1 a2)) :
    ∀ (sz : Nat) (σ0 : MI) (τ0 : ML) (a1 : Int32) (a2 : Int32), pre σ0 τ0 a1 a2 → gMi l D (xw ad ci cl) (xt ci cl) (xa ad) y_Mo_day w_Mo_day rm_Mo_day [.ref (ad 29), .int a1, .int a2] sz σ0 τ0 (post σ0 τ0 a1 a2) := by
  intro sz σ0 τ0 a1 a2 hpre
  refine gk_ofWi (cc := b_Mo_day) (maxL := 5) (ret := (some .int)) (by decide) rfl xa_ok (Nat.le_of_ble_eq_true rfl) ?_
  intro p e s m below meth c ls hx hb hr hlocks hml hown hts hK hP hD hS hl
  have hl : lv_has ls 5 [(0, .ref (ad 29)), (1, .int a1), (2, .int a2)] := hl
  have hown : s.vm.findClass R_Mo = some m.cls := hown
  have hL : ∀ n : Nat, (∀ (x1 : Int32) (x3 : Int32) (x4 : Int32) (σ : MI) (τ : ML) (H : Heap) (locs : List Loc) (ls : Array Slot), m59 σ0 τ0 a1 a2 x1 x3 x4 σ τ < n → I59 σ0 τ0 a1 a2 x1 x3 x4 σ τ → va_P D classes ((xw ad ci cl) σ τ) H → va_D (gA (xa ad) s.heap.size) ((xw ad ci cl) σ τ) → va_S (gA (xa ad) s.heap.size) s.heap H locs → lv_has ls 5 [(0, .ref (ad 29)), (1, .int x1), (3, .int x3), (4, .int x4)] → W p l e rm_Mo_day s m [.ref (ad 29), .int a1, .int a2].toArray below meth c H locs 0 0 (gQi D (xw ad ci cl) (xt ci cl) (xa ad) below [.ref (ad 29), .int a1, .int a2] s (post σ0 τ0 a1 a2)) (F0 m 59 ls [])) := by
    intro n
    induction n with
    | zero => exact fun _ _ _ _ _ _ _ _ hn => absurd hn (Nat.not_lt_zero _)
    | succ n ih =>
      · intro x1 x3 x4 σ τ H locs ls hn hI hP hD hS hl
        have hv := v59 σ0 τ0 a1 a2 x1 x3 x4 σ τ hI
        unfold s_Mo_day_59 at hv
        refine lv_iload hx hb d_Mo_day_59 (lv_at hl 3 rfl) ?_
        refine lv_if_lt (tgt := 87) hx hb d_Mo_day_61 (by decide) (fun hc => ?_) (fun hc => ?_)
        · replace hv := hv.1 hc
          refine lv_iload hx hb d_Mo_day_87 (lv_at hl 3 rfl) ?_
          exact gk_iret hx hb hr hlocks hK hP hD hS hv d_Mo_day_89
        · replace hv := hv.2 hc
          refine lv_iload_n hx hb d_Mo_day_64 rfl (lv_at hl 2 rfl) ?_
          refine lv_if_le (tgt := 87) hx hb d_Mo_day_65 (by decide) (fun hc => ?_) (fun hc => ?_)
          · replace hv := hv.1 hc
            refine lv_iload hx hb d_Mo_day_87 (lv_at hl 3 rfl) ?_
            exact gk_iret hx hb hr hlocks hK hP hD hS hv d_Mo_day_89
          · replace hv := hv.2 hc
            refine lv_aload_n hx hb d_Mo_day_68 rfl (lv_at hl 0 rfl) ?_
            refine lv_aload_n hx hb d_Mo_day_69 rfl (lv_at hl 0 rfl) ?_
            refine lv_iload_n hx hb d_Mo_day_70 rfl (lv_at hl 1 rfl) ?_
            obtain ⟨hg, hv⟩ := hv
            refine gk_callVi (As := [.int x1]) (rest := [.ref (ad 29)]) (b := ad 29) ⟨hx, hb, hml, hown, hts⟩ (h_Mo_givenTo _ σ τ x1 hg) (gk_cwV 1 hts t_w348 rfl rfl rfl (hts _ t_w345) (hts _ t_w346) (hts _ t_w347) (hts _ t_w252) (by decide +kernel) ⟨Nat.le_of_ble_eq_true rfl, Nat.le_of_ble_eq_true rfl⟩) hK hP hD hS (va_recv hK hP (ci := 7) (q0 := 29) rfl rfl) rfl hl.1 rfl (lv_room (Nat.le_of_ble_eq_true rfl)) d_Mo_day_71 ⟨Nat.zero_le _, Nat.zero_le _⟩ ?_
            intro r71 s71 t71 H locs hw hP hD hS
            replace hv := hv r71 s71 t71 hw
            refine lv_iload hx hb d_Mo_day_74 (lv_at hl 3 rfl) ?_
            obtain ⟨hg, hv⟩ := hv
            refine gk_callVi (As := [.int r71, .int x4]) (rest := []) (b := ad 29) ⟨hx, hb, hml, hown, hts⟩ (h_Mo_next _ s71 t71 r71 x4 hg) (gk_cwV 2 hts t_w286 rfl rfl rfl (hts _ t_w283) (hts _ t_w284) (hts _ t_w285) (hts _ t_w252) (by decide +kernel) ⟨Nat.le_of_ble_eq_true rfl, Nat.le_of_ble_eq_true rfl⟩) hK hP hD hS (va_recv hK hP (ci := 7) (q0 := 29) rfl rfl) rfl hl.1 rfl (lv_room (Nat.le_of_ble_eq_true rfl)) d_Mo_day_76 ⟨Nat.zero_le _, Nat.zero_le _⟩ ?_
            intro r76 s76 t76 H locs hw hP hD hS
            replace hv := hv r76 s76 t76 hw
            refine lv_istore (lv' := [(4, .int r76), (0, .ref (ad 29)), (1, .int x1), (3, .int x3)]) hx hb d_Mo_day_79 hl (by decide) rfl (fun ls hl => ?_)
            obtain ⟨y81, ey81⟩ : ∃ z : Int32, z = x3 + (-1) := ⟨_, rfl⟩
            replace hv := hv y81 ey81
            refine lv_iinc (v := y81) (lv' := [(3, .int y81), (4, .int r76), (0, .ref (ad 29)), (1, .int x1)]) hx hb d_Mo_day_81 hl (k := 3) rfl (by rw [ey81]; rfl) (by decide) rfl (fun ls hl => ?_)
            refine lv_goto (tgt := 59) hx hb d_Mo_day_84 (by decide) ?_
            obtain ⟨hI, hm⟩ := hv
            exact ih x1 y81 r76 s76 t76 _ _ _ (Nat.lt_of_lt_of_le hm (Nat.le_of_lt_succ hn)) hI hP hD hS (lv_sub hl [2, 3, 0, 1] rfl)
  have hv := v0 σ0 τ0 a1 a2 hpre
  unfold s_Mo_day_0 at hv
  have j28 : ∀ (w1 : Int32) (w2 : Int32) (σ1 : MI) (τ1 : ML) (H : Heap) (locs : List Loc) (ls : Array Slot), s_Mo_day_28 P_Mo_isPerson Q_Mo_isPerson P_Mo_givenTo Q_Mo_givenTo P_Mo_next Q_Mo_next σ1 τ1 w1 w2 (fun z0 z1 z2 σ9 τ9 => I59 σ0 τ0 a1 a2 z0 z1 z2 σ9 τ9) (post σ0 τ0 a1 a2) → va_P D classes ((xw ad ci cl) σ1 τ1) H → va_D (gA (xa ad) s.heap.size) ((xw ad ci cl) σ1 τ1) → va_S (gA (xa ad) s.heap.size) s.heap H locs → lv_has ls 5 [(0, .ref (ad 29)), (1, .int w1), (2, .int w2)] → W p l e rm_Mo_day s m [.ref (ad 29), .int a1, .int a2].toArray below meth c H locs 0 0 (gQi D (xw ad ci cl) (xt ci cl) (xa ad) below [.ref (ad 29), .int a1, .int a2] s (post σ0 τ0 a1 a2)) (F0 m 28 ls []) := by
    intro w1 w2 σ1 τ1 H locs ls hv hP hD hS hl
    unfold s_Mo_day_28 at hv
    refine lv_aload_n hx hb d_Mo_day_28 rfl (lv_at hl 0 rfl) ?_
    refine va_get (D := D) (ci := 7) (v := .int (σ1 29 0)) (C := R_Mo) (T := F_Mo) (N := 24) hx hb hts iw_Mo hown hK hP 29 rfl rfl 0 (by decide) (hts _ t_w247) (fun _ h9 => h9) rfl d_Mo_day_29 ?_
    refine lv_if_le (tgt := 37) hx hb d_Mo_day_32 (by decide) (fun hc => ?_) (fun hc => ?_)
    · replace hv := hv.1 hc
      refine lv_iload_n hx hb d_Mo_day_37 rfl (lv_at hl 2 rfl) ?_
      refine lv_istore_n (lv' := [(3, .int w2), (0, .ref (ad 29)), (1, .int w1), (2, .int w2)]) hx hb d_Mo_day_38 rfl hl (by decide) rfl (fun ls hl => ?_)
      refine lv_iload_n hx hb d_Mo_day_39 rfl (lv_at hl 3 rfl) ?_
      refine lv_if_ge (tgt := 47) hx hb d_Mo_day_40 (by decide) (fun hc => ?_) (fun hc => ?_)
      · replace hv := hv.1 hc
        refine lv_aload_n hx hb d_Mo_day_47 rfl (lv_at hl 1 rfl) ?_
        refine lv_aload_n hx hb d_Mo_day_48 rfl (lv_at hl 1 rfl) ?_
        refine lv_iload_n hx hb d_Mo_day_49 rfl (lv_at hl 2 rfl) ?_
        obtain ⟨hg, hv⟩ := hv
        refine gk_callVi (As := [.int w1]) (rest := [.ref (ad 29)]) (b := ad 29) ⟨hx, hb, hml, hown, hts⟩ (h_Mo_givenTo _ σ1 τ1 w1 hg) (gk_cwV 1 hts t_w348 rfl rfl rfl (hts _ t_w345) (hts _ t_w346) (hts _ t_w347) (hts _ t_w252) (by decide +kernel) ⟨Nat.le_of_ble_eq_true rfl, Nat.le_of_ble_eq_true rfl⟩) hK hP hD hS (va_recv hK hP (ci := 7) (q0 := 29) rfl rfl) rfl hl.1 rfl (lv_room (Nat.le_of_ble_eq_true rfl)) d_Mo_day_50 ⟨Nat.zero_le _, Nat.zero_le _⟩ ?_
        intro r50 s50 t50 H locs hw hP hD hS
        replace hv := hv r50 s50 t50 hw
        refine lv_iconst (v := (-1)) hx hb d_Mo_day_53 (by decide) ?_
        obtain ⟨hg, hv⟩ := hv
        refine gk_callVi (As := [.int r50, .int ((-1))]) (rest := []) (b := ad 29) ⟨hx, hb, hml, hown, hts⟩ (h_Mo_next _ s50 t50 r50 ((-1)) hg) (gk_cwV 2 hts t_w286 rfl rfl rfl (hts _ t_w283) (hts _ t_w284) (hts _ t_w285) (hts _ t_w252) (by decide +kernel) ⟨Nat.le_of_ble_eq_true rfl, Nat.le_of_ble_eq_true rfl⟩) hK hP hD hS (va_recv hK hP (ci := 7) (q0 := 29) rfl rfl) rfl hl.1 rfl (lv_room (Nat.le_of_ble_eq_true rfl)) d_Mo_day_54 ⟨Nat.zero_le _, Nat.zero_le _⟩ ?_
        intro r54 s54 t54 H locs hw hP hD hS
        replace hv := hv r54 s54 t54 hw
        refine lv_istore (lv' := [(4, .int r54), (3, .int w2), (0, .ref (ad 29)), (1, .int w1), (2, .int w2)]) hx hb d_Mo_day_57 hl (by decide) rfl (fun ls hl => ?_)
        exact (hL _) w1 w2 r54 s54 t54 _ _ _ (Nat.lt_succ_self _) hv hP hD hS (lv_sub hl [2, 3, 1, 0] rfl)
      · replace hv := hv.2 hc
        refine lv_iconst (v := (-1)) hx hb d_Mo_day_43 (by decide) ?_
        refine lv_goto (tgt := 57) hx hb d_Mo_day_44 (by decide) ?_
        refine lv_topi (fun y57 ey57 => ?_)
        replace hv := hv y57 ey57
        refine lv_istore (lv' := [(4, .int y57), (3, .int w2), (0, .ref (ad 29)), (1, .int w1), (2, .int w2)]) hx hb d_Mo_day_57 hl (by decide) rfl (fun ls hl => ?_)
        exact (hL _) w1 w2 y57 σ1 τ1 _ _ _ (Nat.lt_succ_self _) hv hP hD hS (lv_sub hl [2, 3, 1, 0] rfl)
    · replace hv := hv.2 hc
      refine lv_iconst (v := 0) hx hb d_Mo_day_35 (by decide) ?_
      exact gk_iret hx hb hr hlocks hK hP hD hS hv d_Mo_day_36
  refine lv_aload_n hx hb d_Mo_day_0 rfl (lv_at hl 0 rfl) ?_
  refine lv_aload_n hx hb d_Mo_day_1 rfl (lv_at hl 0 rfl) ?_
  refine lv_iload_n hx hb d_Mo_day_2 rfl (lv_at hl 1 rfl) ?_
  obtain ⟨hg, hv⟩ := hv
  refine gk_callVi (As := [.int a1]) (rest := [.ref (ad 29)]) (b := ad 29) ⟨hx, hb, hml, hown, hts⟩ (h_Mo_isPerson _ σ0 τ0 a1 hg) (gk_cwV 1 hts t_w281 rfl rfl rfl (hts _ t_w278) (hts _ t_w279) (hts _ t_w280) (hts _ t_w252) (by decide +kernel) ⟨Nat.le_of_ble_eq_true rfl, Nat.le_of_ble_eq_true rfl⟩) hK hP hD hS (va_recv hK hP (ci := 7) (q0 := 29) rfl rfl) rfl hl.1 rfl (lv_room (Nat.le_of_ble_eq_true rfl)) d_Mo_day_3 ⟨Nat.zero_le _, Nat.zero_le _⟩ ?_
  intro r3 s3 t3 H locs hw hP hD hS
  replace hv := hv r3 s3 t3 hw
  refine lv_if_ne (tgt := 13) hx hb d_Mo_day_6 (by decide) (fun hc => ?_) (fun hc => ?_)
  · replace hv := hv.1 hc
    refine lv_aload_n hx hb d_Mo_day_13 rfl (lv_at hl 0 rfl) ?_
    refine va_get (D := D) (ci := 7) (v := .int (s3 29 18)) (C := R_Mo) (T := F_Mo) (N := 24) hx hb hts iw_Mo hown hK hP 29 rfl rfl 18 (by decide) (hts _ t_w268) (fun _ h9 => h9) rfl d_Mo_day_14 ?_
    refine lv_if_eq (tgt := 24) hx hb d_Mo_day_17 (by decide) (fun hc => ?_) (fun hc => ?_)
    · replace hv := hv.1 hc
      refine lv_iconst (v := 2) hx hb d_Mo_day_24 (by decide) ?_
      refine va_put (D := D) (ci := 7) (v := .int 2) (ty := .int) (fs := [.int (s3 29 0), .int (s3 29 1), .ref (ad 30), .ref (ad 31), .ref (ad 32), .ref (ad 33), .ref (ad 34), .ref (ad 35), .int (s3 29 8), .ref (ad 36), .int (s3 29 10), .ref (ad 37), .ref (ad 38), .ref (ad 39), .ref (ad 40), .ref (ad 41), .ref (ad 42), .int (s3 29 17), .int (s3 29 18), .ref (ad 43), .ref (ad 44), .int (s3 29 21), .ref (ad 45), .ref (ad 46)]) (C := R_Mo) (T := F_Mo) (N := 24) hx hb hts iw_Mo ty_Mo ty_Mo_ok nn_Mo hown hK hP hD hS 29 rfl rfl 0 (by decide) (hts _ t_w247) (fun _ h9 => h9) rfl (by decide +kernel) rfl rfl (Nat.le_of_ble_eq_true rfl) d_Mo_day_25 (fun H locs hP hD hS => ?_)
      rw [xf_29_0] at hP hD
      obtain ⟨s25, es25⟩ : ∃ z : MI, z = st2 s3 29 0 2 := ⟨_, rfl⟩
      rw [← es25] at hP hD
      replace hv := hv s25 es25
      exact j28 a1 a2 s25 t3 _ _ _ hv hP hD hS (lv_sub hl [0, 1, 2] rfl)
    · replace hv := hv.2 hc
      refine lv_iconst (v := 0) hx hb d_Mo_day_20 (by decide) ?_
      refine lv_goto (tgt := 25) hx hb d_Mo_day_21 (by decide) ?_
      refine va_put (D := D) (ci := 7) (v := .int 0) (ty := .int) (fs := [.int (s3 29 0), .int (s3 29 1), .ref (ad 30), .ref (ad 31), .ref (ad 32), .ref (ad 33), .ref (ad 34), .ref (ad 35), .int (s3 29 8), .ref (ad 36), .int (s3 29 10), .ref (ad 37), .ref (ad 38), .ref (ad 39), .ref (ad 40), .ref (ad 41), .ref (ad 42), .int (s3 29 17), .int (s3 29 18), .ref (ad 43), .ref (ad 44), .int (s3 29 21), .ref (ad 45), .ref (ad 46)]) (C := R_Mo) (T := F_Mo) (N := 24) hx hb hts iw_Mo ty_Mo ty_Mo_ok nn_Mo hown hK hP hD hS 29 rfl rfl 0 (by decide) (hts _ t_w247) (fun _ h9 => h9) rfl (by decide +kernel) rfl rfl (Nat.le_of_ble_eq_true rfl) d_Mo_day_25 (fun H locs hP hD hS => ?_)
      rw [xf_29_0] at hP hD
      obtain ⟨s25, es25⟩ : ∃ z : MI, z = st2 s3 29 0 0 := ⟨_, rfl⟩
      rw [← es25] at hP hD
      replace hv := hv s25 es25
      exact j28 a1 a2 s25 t3 _ _ _ hv hP hD hS (lv_sub hl [0, 1, 2] rfl)
  · replace hv := hv.2 hc
    refine lv_iconst (v := 1) hx hb d_Mo_day_9 (by decide) ?_
    refine lv_goto (tgt := 25) hx hb d_Mo_day_10 (by decide) ?_
    refine va_put (D := D) (ci := 7) (v := .int 1) (ty := .int) (fs := [.int (s3 29 0), .int (s3 29 1), .ref (ad 30), .ref (ad 31), .ref (ad 32), .ref (ad 33), .ref (ad 34), .ref (ad 35), .int (s3 29 8), .ref (ad 36), .int (s3 29 10), .ref (ad 37), .ref (ad 38), .ref (ad 39), .ref (ad 40), .ref (ad 41), .ref (ad 42), .int (s3 29 17), .int (s3 29 18), .ref (ad 43), .ref (ad 44), .int (s3 29 21), .ref (ad 45), .ref (ad 46)]) (C := R_Mo) (T := F_Mo) (N := 24) hx hb hts iw_Mo ty_Mo ty_Mo_ok nn_Mo hown hK hP hD hS 29 rfl rfl 0 (by decide) (hts _ t_w247) (fun _ h9 => h9) rfl (by decide +kernel) rfl rfl (Nat.le_of_ble_eq_true rfl) d_Mo_day_25 (fun H locs hP hD hS => ?_)
    rw [xf_29_0] at hP hD
    obtain ⟨s25, es25⟩ : ∃ z : MI, z = st2 s3 29 0 1 := ⟨_, rfl⟩
    rw [← es25] at hP hD
    replace hv := hv s25 es25
    exact j28 a1 a2 s25 t3 _ _ _ hv hP hD hS (lv_sub hl [0, 1, 2] rfl)
theorem d_Mo_waits_0 : decode b_Mo_waits 0 = .ok (.aload_n 0, 1) := by decide +kernel
theorem d_Mo_waits_1 : decode b_Mo_waits 1 = .ok (.aload_n 0, 1) := by decide +kernel
theorem d_Mo_waits_2 : decode b_Mo_waits 2 = .ok (.iload_n 1, 1) := by decide +kernel
theorem d_Mo_waits_3 : decode b_Mo_waits 3 = .ok (.invokevirtual 97, 3) := by decide +kernel
theorem d_Mo_waits_6 : decode b_Mo_waits 6 = .ok (.ifCond .ne 7, 3) := by decide +kernel
theorem d_Mo_waits_9 : decode b_Mo_waits 9 = .ok (.iconst 1, 1) := by decide +kernel
theorem d_Mo_waits_10 : decode b_Mo_waits 10 = .ok (.goto 15, 3) := by decide +kernel
theorem d_Mo_waits_13 : decode b_Mo_waits 13 = .ok (.aload_n 0, 1) := by decide +kernel
theorem d_Mo_waits_14 : decode b_Mo_waits 14 = .ok (.getfield 87, 3) := by decide +kernel
theorem d_Mo_waits_17 : decode b_Mo_waits 17 = .ok (.ifCond .eq 7, 3) := by decide +kernel
theorem d_Mo_waits_20 : decode b_Mo_waits 20 = .ok (.iconst 0, 1) := by decide +kernel
theorem d_Mo_waits_21 : decode b_Mo_waits 21 = .ok (.goto 4, 3) := by decide +kernel
theorem d_Mo_waits_24 : decode b_Mo_waits 24 = .ok (.iconst 2, 1) := by decide +kernel
theorem d_Mo_waits_25 : decode b_Mo_waits 25 = .ok (.putfield 61, 3) := by decide +kernel
theorem d_Mo_waits_28 : decode b_Mo_waits 28 = .ok (.aload_n 0, 1) := by decide +kernel
theorem d_Mo_waits_29 : decode b_Mo_waits 29 = .ok (.getfield 61, 3) := by decide +kernel
theorem d_Mo_waits_32 : decode b_Mo_waits 32 = .ok (.ifCond .le 5, 3) := by decide +kernel
theorem d_Mo_waits_35 : decode b_Mo_waits 35 = .ok (.iconst 0, 1) := by decide +kernel
theorem d_Mo_waits_36 : decode b_Mo_waits 36 = .ok (.ireturn, 1) := by decide +kernel
theorem d_Mo_waits_37 : decode b_Mo_waits 37 = .ok (.iconst 0, 1) := by decide +kernel
theorem d_Mo_waits_38 : decode b_Mo_waits 38 = .ok (.istore_n 2, 1) := by decide +kernel
theorem d_Mo_waits_39 : decode b_Mo_waits 39 = .ok (.aload_n 0, 1) := by decide +kernel
theorem d_Mo_waits_40 : decode b_Mo_waits 40 = .ok (.getfield 13, 3) := by decide +kernel
theorem d_Mo_waits_43 : decode b_Mo_waits 43 = .ok (.iload_n 1, 1) := by decide +kernel
theorem d_Mo_waits_44 : decode b_Mo_waits 44 = .ok (.iaload, 1) := by decide +kernel
theorem d_Mo_waits_45 : decode b_Mo_waits 45 = .ok (.istore_n 3, 1) := by decide +kernel
theorem d_Mo_waits_46 : decode b_Mo_waits 46 = .ok (.aload_n 0, 1) := by decide +kernel
theorem d_Mo_waits_47 : decode b_Mo_waits 47 = .ok (.getfield 19, 3) := by decide +kernel
theorem d_Mo_waits_50 : decode b_Mo_waits 50 = .ok (.iload_n 1, 1) := by decide +kernel
theorem d_Mo_waits_51 : decode b_Mo_waits 51 = .ok (.iaload, 1) := by decide +kernel
theorem d_Mo_waits_52 : decode b_Mo_waits 52 = .ok (.istore 4, 2) := by decide +kernel
theorem d_Mo_waits_54 : decode b_Mo_waits 54 = .ok (.aload_n 0, 1) := by decide +kernel
theorem d_Mo_waits_55 : decode b_Mo_waits 55 = .ok (.aload_n 0, 1) := by decide +kernel
theorem d_Mo_waits_56 : decode b_Mo_waits 56 = .ok (.iload_n 1, 1) := by decide +kernel
theorem d_Mo_waits_57 : decode b_Mo_waits 57 = .ok (.invokevirtual 149, 3) := by decide +kernel
theorem d_Mo_waits_60 : decode b_Mo_waits 60 = .ok (.iconst (-1), 1) := by decide +kernel
theorem d_Mo_waits_61 : decode b_Mo_waits 61 = .ok (.invokevirtual 100, 3) := by decide +kernel
theorem d_Mo_waits_64 : decode b_Mo_waits 64 = .ok (.istore 5, 2) := by decide +kernel
theorem d_Mo_waits_66 : decode b_Mo_waits 66 = .ok (.iload 5, 2) := by decide +kernel
theorem d_Mo_waits_68 : decode b_Mo_waits 68 = .ok (.ifCond .lt 66, 3) := by decide +kernel
theorem d_Mo_waits_71 : decode b_Mo_waits 71 = .ok (.iload_n 2, 1) := by decide +kernel
theorem d_Mo_waits_72 : decode b_Mo_waits 72 = .ok (.aload_n 0, 1) := by decide +kernel
theorem d_Mo_waits_73 : decode b_Mo_waits 73 = .ok (.getfield 37, 3) := by decide +kernel
theorem d_Mo_waits_76 : decode b_Mo_waits 76 = .ok (.iload 5, 2) := by decide +kernel
theorem d_Mo_waits_78 : decode b_Mo_waits 78 = .ok (.iaload, 1) := by decide +kernel
theorem d_Mo_waits_79 : decode b_Mo_waits 79 = .ok (.iload_n 3, 1) := by decide +kernel
theorem d_Mo_waits_80 : decode b_Mo_waits 80 = .ok (.isub, 1) := by decide +kernel
theorem d_Mo_waits_81 : decode b_Mo_waits 81 = .ok (.aload_n 0, 1) := by decide +kernel
theorem d_Mo_waits_82 : decode b_Mo_waits 82 = .ok (.getfield 46, 3) := by decide +kernel
theorem d_Mo_waits_85 : decode b_Mo_waits 85 = .ok (.iconst 5, 1) := by decide +kernel
theorem d_Mo_waits_86 : decode b_Mo_waits 86 = .ok (.iload 4, 2) := by decide +kernel
theorem d_Mo_waits_88 : decode b_Mo_waits 88 = .ok (.imul, 1) := by decide +kernel
theorem d_Mo_waits_89 : decode b_Mo_waits 89 = .ok (.aload_n 0, 1) := by decide +kernel
theorem d_Mo_waits_90 : decode b_Mo_waits 90 = .ok (.getfield 43, 3) := by decide +kernel
theorem d_Mo_waits_93 : decode b_Mo_waits 93 = .ok (.iload 5, 2) := by decide +kernel
theorem d_Mo_waits_95 : decode b_Mo_waits 95 = .ok (.iaload, 1) := by decide +kernel
theorem d_Mo_waits_96 : decode b_Mo_waits 96 = .ok (.iadd, 1) := by decide +kernel
theorem d_Mo_waits_97 : decode b_Mo_waits 97 = .ok (.iaload, 1) := by decide +kernel
theorem d_Mo_waits_98 : decode b_Mo_waits 98 = .ok (.isub, 1) := by decide +kernel
theorem d_Mo_waits_99 : decode b_Mo_waits 99 = .ok (.iadd, 1) := by decide +kernel
theorem d_Mo_waits_100 : decode b_Mo_waits 100 = .ok (.istore_n 2, 1) := by decide +kernel
theorem d_Mo_waits_101 : decode b_Mo_waits 101 = .ok (.aload_n 0, 1) := by decide +kernel
theorem d_Mo_waits_102 : decode b_Mo_waits 102 = .ok (.getfield 40, 3) := by decide +kernel
theorem d_Mo_waits_105 : decode b_Mo_waits 105 = .ok (.iload 5, 2) := by decide +kernel
theorem d_Mo_waits_107 : decode b_Mo_waits 107 = .ok (.iaload, 1) := by decide +kernel
theorem d_Mo_waits_108 : decode b_Mo_waits 108 = .ok (.istore_n 3, 1) := by decide +kernel
theorem d_Mo_waits_109 : decode b_Mo_waits 109 = .ok (.aload_n 0, 1) := by decide +kernel
theorem d_Mo_waits_110 : decode b_Mo_waits 110 = .ok (.getfield 43, 3) := by decide +kernel
theorem d_Mo_waits_113 : decode b_Mo_waits 113 = .ok (.iload 5, 2) := by decide +kernel
theorem d_Mo_waits_115 : decode b_Mo_waits 115 = .ok (.iaload, 1) := by decide +kernel
theorem d_Mo_waits_116 : decode b_Mo_waits 116 = .ok (.istore 4, 2) := by decide +kernel
theorem d_Mo_waits_118 : decode b_Mo_waits 118 = .ok (.aload_n 0, 1) := by decide +kernel
theorem d_Mo_waits_119 : decode b_Mo_waits 119 = .ok (.aload_n 0, 1) := by decide +kernel
theorem d_Mo_waits_120 : decode b_Mo_waits 120 = .ok (.iload_n 1, 1) := by decide +kernel
theorem d_Mo_waits_121 : decode b_Mo_waits 121 = .ok (.invokevirtual 149, 3) := by decide +kernel
theorem d_Mo_waits_124 : decode b_Mo_waits 124 = .ok (.iload 5, 2) := by decide +kernel
theorem d_Mo_waits_126 : decode b_Mo_waits 126 = .ok (.invokevirtual 100, 3) := by decide +kernel
theorem d_Mo_waits_129 : decode b_Mo_waits 129 = .ok (.istore 5, 2) := by decide +kernel
theorem d_Mo_waits_131 : decode b_Mo_waits 131 = .ok (.goto (-65), 3) := by decide +kernel
theorem d_Mo_waits_134 : decode b_Mo_waits 134 = .ok (.iload_n 2, 1) := by decide +kernel
theorem d_Mo_waits_135 : decode b_Mo_waits 135 = .ok (.ireturn, 1) := by decide +kernel
def s_Mo_waits_28 (P_Mo_isPerson : MI → ML → Int32 → Prop) (Q_Mo_isPerson : MI → ML → Int32 → Int32 → MI → ML → Prop) (P_Mo_givenTo : MI → ML → Int32 → Prop) (Q_Mo_givenTo : MI → ML → Int32 → Int32 → MI → ML → Prop) (P_Mo_next : MI → ML → Int32 → Int32 → Prop) (Q_Mo_next : MI → ML → Int32 → Int32 → Int32 → MI → ML → Prop) (σ : MI) (τ : ML) (x1 : Int32) (K66 : Int32 → Int32 → Int32 → Int32 → Int32 → MI → ML → Prop) (R : Int32 → MI → ML → Prop) : Prop :=
  ((σ 29 0) ≤ 0 →
  (vp_in x1 4 ∧ (∀ y45 : Int32, y45 = σ 31 (Int32.toNatClampNeg x1) → (vp_in x1 4 ∧ (∀ y52 : Int32, y52 = σ 33 (Int32.toNatClampNeg x1) → (P_Mo_givenTo σ τ x1 ∧ ∀ (r57 : Int32) (s57 : MI) (t57 : ML), Q_Mo_givenTo σ τ x1 r57 s57 t57 → (P_Mo_next s57 t57 r57 ((-1)) ∧ ∀ (r61 : Int32) (s61 : MI) (t61 : ML), Q_Mo_next s57 t57 r57 ((-1)) r61 s61 t61 → (K66 x1 0 y45 y52 r61 s61 t61)))))))) ∧
  (¬ (σ 29 0) ≤ 0 →
  (R 0 σ τ))
def s_Mo_waits_0 (P_Mo_isPerson : MI → ML → Int32 → Prop) (Q_Mo_isPerson : MI → ML → Int32 → Int32 → MI → ML → Prop) (P_Mo_givenTo : MI → ML → Int32 → Prop) (Q_Mo_givenTo : MI → ML → Int32 → Int32 → MI → ML → Prop) (P_Mo_next : MI → ML → Int32 → Int32 → Prop) (Q_Mo_next : MI → ML → Int32 → Int32 → Int32 → MI → ML → Prop) (σ : MI) (τ : ML) (a1 : Int32) (K66 : Int32 → Int32 → Int32 → Int32 → Int32 → MI → ML → Prop) (R : Int32 → MI → ML → Prop) : Prop :=
  P_Mo_isPerson σ τ a1 ∧ ∀ (r3 : Int32) (s3 : MI) (t3 : ML), Q_Mo_isPerson σ τ a1 r3 s3 t3 → ((¬ r3 = 0 →
  (((s3 29 18) = 0 →
    (∀ s25 : MI, s25 = st2 s3 29 0 2 → (s_Mo_waits_28 P_Mo_isPerson Q_Mo_isPerson P_Mo_givenTo Q_Mo_givenTo P_Mo_next Q_Mo_next s25 t3 a1 K66 R))) ∧
    (¬ (s3 29 18) = 0 →
    (∀ s25 : MI, s25 = st2 s3 29 0 0 → (s_Mo_waits_28 P_Mo_isPerson Q_Mo_isPerson P_Mo_givenTo Q_Mo_givenTo P_Mo_next Q_Mo_next s25 t3 a1 K66 R))))) ∧
  (r3 = 0 →
  (∀ s25 : MI, s25 = st2 s3 29 0 1 → (s_Mo_waits_28 P_Mo_isPerson Q_Mo_isPerson P_Mo_givenTo Q_Mo_givenTo P_Mo_next Q_Mo_next s25 t3 a1 K66 R))))
def s_Mo_waits_66 (P_Mo_isPerson : MI → ML → Int32 → Prop) (Q_Mo_isPerson : MI → ML → Int32 → Int32 → MI → ML → Prop) (P_Mo_givenTo : MI → ML → Int32 → Prop) (Q_Mo_givenTo : MI → ML → Int32 → Int32 → MI → ML → Prop) (P_Mo_next : MI → ML → Int32 → Int32 → Prop) (Q_Mo_next : MI → ML → Int32 → Int32 → Int32 → MI → ML → Prop) (σ : MI) (τ : ML) (x1 : Int32) (x2 : Int32) (x3 : Int32) (x4 : Int32) (x5 : Int32) (K66 : Int32 → Int32 → Int32 → Int32 → Int32 → MI → ML → Prop) (R : Int32 → MI → ML → Prop) : Prop :=
  (x5 < 0 →
  (R x2 σ τ)) ∧
  (¬ x5 < 0 →
  (vp_in x5 7 ∧ (vp_in x5 7 ∧ (vp_in ((5 * x4) + (σ 41 (Int32.toNatClampNeg x5))) 25 ∧ (∀ y100 : Int32, y100 = x2 + (((σ 39 (Int32.toNatClampNeg x5)) - x3) - (σ 42 (Int32.toNatClampNeg ((5 * x4) + (σ 41 (Int32.toNatClampNeg x5)))))) → (vp_in x5 7 ∧ (∀ y108 : Int32, y108 = σ 40 (Int32.toNatClampNeg x5) → (vp_in x5 7 ∧ (∀ y116 : Int32, y116 = σ 41 (Int32.toNatClampNeg x5) → (P_Mo_givenTo σ τ x1 ∧ ∀ (r121 : Int32) (s121 : MI) (t121 : ML), Q_Mo_givenTo σ τ x1 r121 s121 t121 → (P_Mo_next s121 t121 r121 x5 ∧ ∀ (r126 : Int32) (s126 : MI) (t126 : ML), Q_Mo_next s121 t121 r121 x5 r126 s126 t126 → (K66 x1 y100 y108 y116 r126 s126 t126))))))))))))
set_option maxHeartbeats 4000000 in
set_option maxRecDepth 100000 in
theorem k_Mo_waits (l : Launch) (D : va_G) (ad : Nat → Nat) (ci cl : ClassId)
    (pre : MI → ML → Int32 → Prop) (post : MI → ML → Int32 → Int32 → MI → ML → Prop) (P_Mo_isPerson : MI → ML → Int32 → Prop) (Q_Mo_isPerson : MI → ML → Int32 → Int32 → MI → ML → Prop) (P_Mo_givenTo : MI → ML → Int32 → Prop) (Q_Mo_givenTo : MI → ML → Int32 → Int32 → MI → ML → Prop) (P_Mo_next : MI → ML → Int32 → Int32 → Prop) (Q_Mo_next : MI → ML → Int32 → Int32 → Int32 → MI → ML → Prop)
    (h_Mo_isPerson : ∀ (sz : Nat) (σ : MI) (τ : ML) (b0 : Int32), P_Mo_isPerson σ τ b0 → gMi l D (xw ad ci cl) (xt ci cl) (xa ad) y_Mo_isPerson w_Mo_isPerson rm_Mo_isPerson [.ref (ad 29), .int b0] sz σ τ (Q_Mo_isPerson σ τ b0))
    (h_Mo_givenTo : ∀ (sz : Nat) (σ : MI) (τ : ML) (b0 : Int32), P_Mo_givenTo σ τ b0 → gMi l D (xw ad ci cl) (xt ci cl) (xa ad) y_Mo_givenTo w_Mo_givenTo rm_Mo_givenTo [.ref (ad 29), .int b0] sz σ τ (Q_Mo_givenTo σ τ b0))
    (h_Mo_next : ∀ (sz : Nat) (σ : MI) (τ : ML) (b0 : Int32) (b1 : Int32), P_Mo_next σ τ b0 b1 → gMi l D (xw ad ci cl) (xt ci cl) (xa ad) y_Mo_next w_Mo_next rm_Mo_next [.ref (ad 29), .int b0, .int b1] sz σ τ (Q_Mo_next σ τ b0 b1))
    (I66 : MI → ML → Int32 → Int32 → Int32 → Int32 → Int32 → Int32 → MI → ML → Prop) (m66 : MI → ML → Int32 → Int32 → Int32 → Int32 → Int32 → Int32 → MI → ML → Nat)
    (v0 : ∀ (σ0 : MI) (τ0 : ML) (a1 : Int32), pre σ0 τ0 a1 → s_Mo_waits_0 P_Mo_isPerson Q_Mo_isPerson P_Mo_givenTo Q_Mo_givenTo P_Mo_next Q_Mo_next σ0 τ0 a1 (fun z0 z1 z2 z3 z4 σ9 τ9 => I66 σ0 τ0 a1 z0 z1 z2 z3 z4 σ9 τ9) (post σ0 τ0 a1))
    (v66 : ∀ (σ0 : MI) (τ0 : ML) (a1 : Int32) (x1 : Int32) (x2 : Int32) (x3 : Int32) (x4 : Int32) (x5 : Int32) (σ : MI) (τ : ML), I66 σ0 τ0 a1 x1 x2 x3 x4 x5 σ τ → s_Mo_waits_66 P_Mo_isPerson Q_Mo_isPerson P_Mo_givenTo Q_Mo_givenTo P_Mo_next Q_Mo_next σ τ x1 x2 x3 x4 x5 (fun z0 z1 z2 z3 z4 σ9 τ9 => I66 σ0 τ0 a1 z0 z1 z2 z3 z4 σ9 τ9 ∧ m66 σ0 τ0 a1 z0 z1 z2 z3 z4 σ9 τ9 < m66 σ0 τ0 a1 x1 x2 x3 x4 x5 σ τ) (post σ0 τ0 a1)) :
    ∀ (sz : Nat) (σ0 : MI) (τ0 : ML) (a1 : Int32), pre σ0 τ0 a1 → gMi l D (xw ad ci cl) (xt ci cl) (xa ad) y_Mo_waits w_Mo_waits rm_Mo_waits [.ref (ad 29), .int a1] sz σ0 τ0 (post σ0 τ0 a1) := by
  intro sz σ0 τ0 a1 hpre
  refine gk_ofWi (cc := b_Mo_waits) (maxL := 6) (ret := (some .int)) (by decide) rfl xa_ok (Nat.le_of_ble_eq_true rfl) ?_
  intro p e s m below meth c ls hx hb hr hlocks hml hown hts hK hP hD hS hl
  have hl : lv_has ls 6 [(0, .ref (ad 29)), (1, .int a1)] := hl
  have hown : s.vm.findClass R_Mo = some m.cls := hown
  have hL : ∀ n : Nat, (∀ (x1 : Int32) (x2 : Int32) (x3 : Int32) (x4 : Int32) (x5 : Int32) (σ : MI) (τ : ML) (H : Heap) (locs : List Loc) (ls : Array Slot), m66 σ0 τ0 a1 x1 x2 x3 x4 x5 σ τ < n → I66 σ0 τ0 a1 x1 x2 x3 x4 x5 σ τ → va_P D classes ((xw ad ci cl) σ τ) H → va_D (gA (xa ad) s.heap.size) ((xw ad ci cl) σ τ) → va_S (gA (xa ad) s.heap.size) s.heap H locs → lv_has ls 6 [(0, .ref (ad 29)), (1, .int x1), (2, .int x2), (3, .int x3), (4, .int x4), (5, .int x5)] → W p l e rm_Mo_waits s m [.ref (ad 29), .int a1].toArray below meth c H locs 0 0 (gQi D (xw ad ci cl) (xt ci cl) (xa ad) below [.ref (ad 29), .int a1] s (post σ0 τ0 a1)) (F0 m 66 ls [])) := by
    intro n
    induction n with
    | zero => exact fun _ _ _ _ _ _ _ _ _ _ hn => absurd hn (Nat.not_lt_zero _)
    | succ n ih =>
      · intro x1 x2 x3 x4 x5 σ τ H locs ls hn hI hP hD hS hl
        have hv := v66 σ0 τ0 a1 x1 x2 x3 x4 x5 σ τ hI
        unfold s_Mo_waits_66 at hv
        refine lv_iload hx hb d_Mo_waits_66 (lv_at hl 5 rfl) ?_
        refine lv_if_lt (tgt := 134) hx hb d_Mo_waits_68 (by decide) (fun hc => ?_) (fun hc => ?_)
        · replace hv := hv.1 hc
          refine lv_iload_n hx hb d_Mo_waits_134 rfl (lv_at hl 2 rfl) ?_
          exact gk_iret hx hb hr hlocks hK hP hD hS hv d_Mo_waits_135
        · replace hv := hv.2 hc
          refine lv_iload_n hx hb d_Mo_waits_71 rfl (lv_at hl 2 rfl) ?_
          refine lv_aload_n hx hb d_Mo_waits_72 rfl (lv_at hl 0 rfl) ?_
          refine va_get (D := D) (ci := 7) (v := .ref (ad 39)) (C := R_Mo) (T := F_Mo) (N := 24) hx hb hts iw_Mo hown hK hP 29 rfl rfl 13 (by decide) (hts _ t_w273) (fun _ h9 => h9) rfl d_Mo_waits_73 ?_
          refine lv_iload hx hb d_Mo_waits_76 (lv_at hl 5 rfl) ?_
          obtain ⟨hi, hv⟩ := hv
          refine va_iald hx hb hK hP 39 0 rfl rfl hi d_Mo_waits_78 ?_
          refine lv_iload_n hx hb d_Mo_waits_79 rfl (lv_at hl 3 rfl) ?_
          refine lv_isub hx hb d_Mo_waits_80 ?_
          refine lv_aload_n hx hb d_Mo_waits_81 rfl (lv_at hl 0 rfl) ?_
          refine va_get (D := D) (ci := 7) (v := .ref (ad 42)) (C := R_Mo) (T := F_Mo) (N := 24) hx hb hts iw_Mo hown hK hP 29 rfl rfl 16 (by decide) (hts _ t_w276) (fun _ h9 => h9) rfl d_Mo_waits_82 ?_
          refine lv_iconst (v := 5) hx hb d_Mo_waits_85 (by decide) ?_
          refine lv_iload hx hb d_Mo_waits_86 (lv_at hl 4 rfl) ?_
          refine lv_imul hx hb d_Mo_waits_88 ?_
          refine lv_aload_n hx hb d_Mo_waits_89 rfl (lv_at hl 0 rfl) ?_
          refine va_get (D := D) (ci := 7) (v := .ref (ad 41)) (C := R_Mo) (T := F_Mo) (N := 24) hx hb hts iw_Mo hown hK hP 29 rfl rfl 15 (by decide) (hts _ t_w275) (fun _ h9 => h9) rfl d_Mo_waits_90 ?_
          refine lv_iload hx hb d_Mo_waits_93 (lv_at hl 5 rfl) ?_
          obtain ⟨hi, hv⟩ := hv
          refine va_iald hx hb hK hP 41 0 rfl rfl hi d_Mo_waits_95 ?_
          refine lv_iadd hx hb d_Mo_waits_96 ?_
          obtain ⟨hi, hv⟩ := hv
          refine va_iald hx hb hK hP 42 0 rfl rfl hi d_Mo_waits_97 ?_
          refine lv_isub hx hb d_Mo_waits_98 ?_
          refine lv_iadd hx hb d_Mo_waits_99 ?_
          refine lv_topi (fun y100 ey100 => ?_)
          replace hv := hv y100 ey100
          refine lv_istore_n (lv' := [(2, .int y100), (0, .ref (ad 29)), (1, .int x1), (3, .int x3), (4, .int x4), (5, .int x5)]) hx hb d_Mo_waits_100 rfl hl (by decide) rfl (fun ls hl => ?_)
          refine lv_aload_n hx hb d_Mo_waits_101 rfl (lv_at hl 1 rfl) ?_
          refine va_get (D := D) (ci := 7) (v := .ref (ad 40)) (C := R_Mo) (T := F_Mo) (N := 24) hx hb hts iw_Mo hown hK hP 29 rfl rfl 14 (by decide) (hts _ t_w274) (fun _ h9 => h9) rfl d_Mo_waits_102 ?_
          refine lv_iload hx hb d_Mo_waits_105 (lv_at hl 5 rfl) ?_
          obtain ⟨hi, hv⟩ := hv
          refine va_iald hx hb hK hP 40 0 rfl rfl hi d_Mo_waits_107 ?_
          refine lv_topi (fun y108 ey108 => ?_)
          replace hv := hv y108 ey108
          refine lv_istore_n (lv' := [(3, .int y108), (2, .int y100), (0, .ref (ad 29)), (1, .int x1), (4, .int x4), (5, .int x5)]) hx hb d_Mo_waits_108 rfl hl (by decide) rfl (fun ls hl => ?_)
          refine lv_aload_n hx hb d_Mo_waits_109 rfl (lv_at hl 2 rfl) ?_
          refine va_get (D := D) (ci := 7) (v := .ref (ad 41)) (C := R_Mo) (T := F_Mo) (N := 24) hx hb hts iw_Mo hown hK hP 29 rfl rfl 15 (by decide) (hts _ t_w275) (fun _ h9 => h9) rfl d_Mo_waits_110 ?_
          refine lv_iload hx hb d_Mo_waits_113 (lv_at hl 5 rfl) ?_
          obtain ⟨hi, hv⟩ := hv
          refine va_iald hx hb hK hP 41 0 rfl rfl hi d_Mo_waits_115 ?_
          refine lv_topi (fun y116 ey116 => ?_)
          replace hv := hv y116 ey116
          refine lv_istore (lv' := [(4, .int y116), (3, .int y108), (2, .int y100), (0, .ref (ad 29)), (1, .int x1), (5, .int x5)]) hx hb d_Mo_waits_116 hl (by decide) rfl (fun ls hl => ?_)
          refine lv_aload_n hx hb d_Mo_waits_118 rfl (lv_at hl 3 rfl) ?_
          refine lv_aload_n hx hb d_Mo_waits_119 rfl (lv_at hl 3 rfl) ?_
          refine lv_iload_n hx hb d_Mo_waits_120 rfl (lv_at hl 4 rfl) ?_
          obtain ⟨hg, hv⟩ := hv
          refine gk_callVi (As := [.int x1]) (rest := [.ref (ad 29)]) (b := ad 29) ⟨hx, hb, hml, hown, hts⟩ (h_Mo_givenTo _ σ τ x1 hg) (gk_cwV 1 hts t_w348 rfl rfl rfl (hts _ t_w345) (hts _ t_w346) (hts _ t_w347) (hts _ t_w252) (by decide +kernel) ⟨Nat.le_of_ble_eq_true rfl, Nat.le_of_ble_eq_true rfl⟩) hK hP hD hS (va_recv hK hP (ci := 7) (q0 := 29) rfl rfl) rfl hl.1 rfl (lv_room (Nat.le_of_ble_eq_true rfl)) d_Mo_waits_121 ⟨Nat.zero_le _, Nat.zero_le _⟩ ?_
          intro r121 s121 t121 H locs hw hP hD hS
          replace hv := hv r121 s121 t121 hw
          refine lv_iload hx hb d_Mo_waits_124 (lv_at hl 5 rfl) ?_
          obtain ⟨hg, hv⟩ := hv
          refine gk_callVi (As := [.int r121, .int x5]) (rest := []) (b := ad 29) ⟨hx, hb, hml, hown, hts⟩ (h_Mo_next _ s121 t121 r121 x5 hg) (gk_cwV 2 hts t_w286 rfl rfl rfl (hts _ t_w283) (hts _ t_w284) (hts _ t_w285) (hts _ t_w252) (by decide +kernel) ⟨Nat.le_of_ble_eq_true rfl, Nat.le_of_ble_eq_true rfl⟩) hK hP hD hS (va_recv hK hP (ci := 7) (q0 := 29) rfl rfl) rfl hl.1 rfl (lv_room (Nat.le_of_ble_eq_true rfl)) d_Mo_waits_126 ⟨Nat.zero_le _, Nat.zero_le _⟩ ?_
          intro r126 s126 t126 H locs hw hP hD hS
          replace hv := hv r126 s126 t126 hw
          refine lv_istore (lv' := [(5, .int r126), (4, .int y116), (3, .int y108), (2, .int y100), (0, .ref (ad 29)), (1, .int x1)]) hx hb d_Mo_waits_129 hl (by decide) rfl (fun ls hl => ?_)
          refine lv_goto (tgt := 66) hx hb d_Mo_waits_131 (by decide) ?_
          obtain ⟨hI, hm⟩ := hv
          exact ih x1 y100 y108 y116 r126 s126 t126 _ _ _ (Nat.lt_of_lt_of_le hm (Nat.le_of_lt_succ hn)) hI hP hD hS (lv_sub hl [4, 5, 3, 2, 1, 0] rfl)
  have hv := v0 σ0 τ0 a1 hpre
  unfold s_Mo_waits_0 at hv
  have j28 : ∀ (w1 : Int32) (σ1 : MI) (τ1 : ML) (H : Heap) (locs : List Loc) (ls : Array Slot), s_Mo_waits_28 P_Mo_isPerson Q_Mo_isPerson P_Mo_givenTo Q_Mo_givenTo P_Mo_next Q_Mo_next σ1 τ1 w1 (fun z0 z1 z2 z3 z4 σ9 τ9 => I66 σ0 τ0 a1 z0 z1 z2 z3 z4 σ9 τ9) (post σ0 τ0 a1) → va_P D classes ((xw ad ci cl) σ1 τ1) H → va_D (gA (xa ad) s.heap.size) ((xw ad ci cl) σ1 τ1) → va_S (gA (xa ad) s.heap.size) s.heap H locs → lv_has ls 6 [(0, .ref (ad 29)), (1, .int w1)] → W p l e rm_Mo_waits s m [.ref (ad 29), .int a1].toArray below meth c H locs 0 0 (gQi D (xw ad ci cl) (xt ci cl) (xa ad) below [.ref (ad 29), .int a1] s (post σ0 τ0 a1)) (F0 m 28 ls []) := by
    intro w1 σ1 τ1 H locs ls hv hP hD hS hl
    unfold s_Mo_waits_28 at hv
    refine lv_aload_n hx hb d_Mo_waits_28 rfl (lv_at hl 0 rfl) ?_
    refine va_get (D := D) (ci := 7) (v := .int (σ1 29 0)) (C := R_Mo) (T := F_Mo) (N := 24) hx hb hts iw_Mo hown hK hP 29 rfl rfl 0 (by decide) (hts _ t_w247) (fun _ h9 => h9) rfl d_Mo_waits_29 ?_
    refine lv_if_le (tgt := 37) hx hb d_Mo_waits_32 (by decide) (fun hc => ?_) (fun hc => ?_)
    · replace hv := hv.1 hc
      refine lv_iconst (v := 0) hx hb d_Mo_waits_37 (by decide) ?_
      refine lv_istore_n (lv' := [(2, .int 0), (0, .ref (ad 29)), (1, .int w1)]) hx hb d_Mo_waits_38 rfl hl (by decide) rfl (fun ls hl => ?_)
      refine lv_aload_n hx hb d_Mo_waits_39 rfl (lv_at hl 1 rfl) ?_
      refine va_get (D := D) (ci := 7) (v := .ref (ad 31)) (C := R_Mo) (T := F_Mo) (N := 24) hx hb hts iw_Mo hown hK hP 29 rfl rfl 3 (by decide) (hts _ t_w265) (fun _ h9 => h9) rfl d_Mo_waits_40 ?_
      refine lv_iload_n hx hb d_Mo_waits_43 rfl (lv_at hl 2 rfl) ?_
      obtain ⟨hi, hv⟩ := hv
      refine va_iald hx hb hK hP 31 0 rfl rfl hi d_Mo_waits_44 ?_
      refine lv_topi (fun y45 ey45 => ?_)
      replace hv := hv y45 ey45
      refine lv_istore_n (lv' := [(3, .int y45), (2, .int 0), (0, .ref (ad 29)), (1, .int w1)]) hx hb d_Mo_waits_45 rfl hl (by decide) rfl (fun ls hl => ?_)
      refine lv_aload_n hx hb d_Mo_waits_46 rfl (lv_at hl 2 rfl) ?_
      refine va_get (D := D) (ci := 7) (v := .ref (ad 33)) (C := R_Mo) (T := F_Mo) (N := 24) hx hb hts iw_Mo hown hK hP 29 rfl rfl 5 (by decide) (hts _ t_w267) (fun _ h9 => h9) rfl d_Mo_waits_47 ?_
      refine lv_iload_n hx hb d_Mo_waits_50 rfl (lv_at hl 3 rfl) ?_
      obtain ⟨hi, hv⟩ := hv
      refine va_iald hx hb hK hP 33 0 rfl rfl hi d_Mo_waits_51 ?_
      refine lv_topi (fun y52 ey52 => ?_)
      replace hv := hv y52 ey52
      refine lv_istore (lv' := [(4, .int y52), (3, .int y45), (2, .int 0), (0, .ref (ad 29)), (1, .int w1)]) hx hb d_Mo_waits_52 hl (by decide) rfl (fun ls hl => ?_)
      refine lv_aload_n hx hb d_Mo_waits_54 rfl (lv_at hl 3 rfl) ?_
      refine lv_aload_n hx hb d_Mo_waits_55 rfl (lv_at hl 3 rfl) ?_
      refine lv_iload_n hx hb d_Mo_waits_56 rfl (lv_at hl 4 rfl) ?_
      obtain ⟨hg, hv⟩ := hv
      refine gk_callVi (As := [.int w1]) (rest := [.ref (ad 29)]) (b := ad 29) ⟨hx, hb, hml, hown, hts⟩ (h_Mo_givenTo _ σ1 τ1 w1 hg) (gk_cwV 1 hts t_w348 rfl rfl rfl (hts _ t_w345) (hts _ t_w346) (hts _ t_w347) (hts _ t_w252) (by decide +kernel) ⟨Nat.le_of_ble_eq_true rfl, Nat.le_of_ble_eq_true rfl⟩) hK hP hD hS (va_recv hK hP (ci := 7) (q0 := 29) rfl rfl) rfl hl.1 rfl (lv_room (Nat.le_of_ble_eq_true rfl)) d_Mo_waits_57 ⟨Nat.zero_le _, Nat.zero_le _⟩ ?_
      intro r57 s57 t57 H locs hw hP hD hS
      replace hv := hv r57 s57 t57 hw
      refine lv_iconst (v := (-1)) hx hb d_Mo_waits_60 (by decide) ?_
      obtain ⟨hg, hv⟩ := hv
      refine gk_callVi (As := [.int r57, .int ((-1))]) (rest := []) (b := ad 29) ⟨hx, hb, hml, hown, hts⟩ (h_Mo_next _ s57 t57 r57 ((-1)) hg) (gk_cwV 2 hts t_w286 rfl rfl rfl (hts _ t_w283) (hts _ t_w284) (hts _ t_w285) (hts _ t_w252) (by decide +kernel) ⟨Nat.le_of_ble_eq_true rfl, Nat.le_of_ble_eq_true rfl⟩) hK hP hD hS (va_recv hK hP (ci := 7) (q0 := 29) rfl rfl) rfl hl.1 rfl (lv_room (Nat.le_of_ble_eq_true rfl)) d_Mo_waits_61 ⟨Nat.zero_le _, Nat.zero_le _⟩ ?_
      intro r61 s61 t61 H locs hw hP hD hS
      replace hv := hv r61 s61 t61 hw
      refine lv_istore (lv' := [(5, .int r61), (4, .int y52), (3, .int y45), (2, .int 0), (0, .ref (ad 29)), (1, .int w1)]) hx hb d_Mo_waits_64 hl (by decide) rfl (fun ls hl => ?_)
      exact (hL _) w1 0 y45 y52 r61 s61 t61 _ _ _ (Nat.lt_succ_self _) hv hP hD hS (lv_sub hl [4, 5, 3, 2, 1, 0] rfl)
    · replace hv := hv.2 hc
      refine lv_iconst (v := 0) hx hb d_Mo_waits_35 (by decide) ?_
      exact gk_iret hx hb hr hlocks hK hP hD hS hv d_Mo_waits_36
  refine lv_aload_n hx hb d_Mo_waits_0 rfl (lv_at hl 0 rfl) ?_
  refine lv_aload_n hx hb d_Mo_waits_1 rfl (lv_at hl 0 rfl) ?_
  refine lv_iload_n hx hb d_Mo_waits_2 rfl (lv_at hl 1 rfl) ?_
  obtain ⟨hg, hv⟩ := hv
  refine gk_callVi (As := [.int a1]) (rest := [.ref (ad 29)]) (b := ad 29) ⟨hx, hb, hml, hown, hts⟩ (h_Mo_isPerson _ σ0 τ0 a1 hg) (gk_cwV 1 hts t_w281 rfl rfl rfl (hts _ t_w278) (hts _ t_w279) (hts _ t_w280) (hts _ t_w252) (by decide +kernel) ⟨Nat.le_of_ble_eq_true rfl, Nat.le_of_ble_eq_true rfl⟩) hK hP hD hS (va_recv hK hP (ci := 7) (q0 := 29) rfl rfl) rfl hl.1 rfl (lv_room (Nat.le_of_ble_eq_true rfl)) d_Mo_waits_3 ⟨Nat.zero_le _, Nat.zero_le _⟩ ?_
  intro r3 s3 t3 H locs hw hP hD hS
  replace hv := hv r3 s3 t3 hw
  refine lv_if_ne (tgt := 13) hx hb d_Mo_waits_6 (by decide) (fun hc => ?_) (fun hc => ?_)
  · replace hv := hv.1 hc
    refine lv_aload_n hx hb d_Mo_waits_13 rfl (lv_at hl 0 rfl) ?_
    refine va_get (D := D) (ci := 7) (v := .int (s3 29 18)) (C := R_Mo) (T := F_Mo) (N := 24) hx hb hts iw_Mo hown hK hP 29 rfl rfl 18 (by decide) (hts _ t_w268) (fun _ h9 => h9) rfl d_Mo_waits_14 ?_
    refine lv_if_eq (tgt := 24) hx hb d_Mo_waits_17 (by decide) (fun hc => ?_) (fun hc => ?_)
    · replace hv := hv.1 hc
      refine lv_iconst (v := 2) hx hb d_Mo_waits_24 (by decide) ?_
      refine va_put (D := D) (ci := 7) (v := .int 2) (ty := .int) (fs := [.int (s3 29 0), .int (s3 29 1), .ref (ad 30), .ref (ad 31), .ref (ad 32), .ref (ad 33), .ref (ad 34), .ref (ad 35), .int (s3 29 8), .ref (ad 36), .int (s3 29 10), .ref (ad 37), .ref (ad 38), .ref (ad 39), .ref (ad 40), .ref (ad 41), .ref (ad 42), .int (s3 29 17), .int (s3 29 18), .ref (ad 43), .ref (ad 44), .int (s3 29 21), .ref (ad 45), .ref (ad 46)]) (C := R_Mo) (T := F_Mo) (N := 24) hx hb hts iw_Mo ty_Mo ty_Mo_ok nn_Mo hown hK hP hD hS 29 rfl rfl 0 (by decide) (hts _ t_w247) (fun _ h9 => h9) rfl (by decide +kernel) rfl rfl (Nat.le_of_ble_eq_true rfl) d_Mo_waits_25 (fun H locs hP hD hS => ?_)
      rw [xf_29_0] at hP hD
      obtain ⟨s25, es25⟩ : ∃ z : MI, z = st2 s3 29 0 2 := ⟨_, rfl⟩
      rw [← es25] at hP hD
      replace hv := hv s25 es25
      exact j28 a1 s25 t3 _ _ _ hv hP hD hS (lv_sub hl [0, 1] rfl)
    · replace hv := hv.2 hc
      refine lv_iconst (v := 0) hx hb d_Mo_waits_20 (by decide) ?_
      refine lv_goto (tgt := 25) hx hb d_Mo_waits_21 (by decide) ?_
      refine va_put (D := D) (ci := 7) (v := .int 0) (ty := .int) (fs := [.int (s3 29 0), .int (s3 29 1), .ref (ad 30), .ref (ad 31), .ref (ad 32), .ref (ad 33), .ref (ad 34), .ref (ad 35), .int (s3 29 8), .ref (ad 36), .int (s3 29 10), .ref (ad 37), .ref (ad 38), .ref (ad 39), .ref (ad 40), .ref (ad 41), .ref (ad 42), .int (s3 29 17), .int (s3 29 18), .ref (ad 43), .ref (ad 44), .int (s3 29 21), .ref (ad 45), .ref (ad 46)]) (C := R_Mo) (T := F_Mo) (N := 24) hx hb hts iw_Mo ty_Mo ty_Mo_ok nn_Mo hown hK hP hD hS 29 rfl rfl 0 (by decide) (hts _ t_w247) (fun _ h9 => h9) rfl (by decide +kernel) rfl rfl (Nat.le_of_ble_eq_true rfl) d_Mo_waits_25 (fun H locs hP hD hS => ?_)
      rw [xf_29_0] at hP hD
      obtain ⟨s25, es25⟩ : ∃ z : MI, z = st2 s3 29 0 0 := ⟨_, rfl⟩
      rw [← es25] at hP hD
      replace hv := hv s25 es25
      exact j28 a1 s25 t3 _ _ _ hv hP hD hS (lv_sub hl [0, 1] rfl)
  · replace hv := hv.2 hc
    refine lv_iconst (v := 1) hx hb d_Mo_waits_9 (by decide) ?_
    refine lv_goto (tgt := 25) hx hb d_Mo_waits_10 (by decide) ?_
    refine va_put (D := D) (ci := 7) (v := .int 1) (ty := .int) (fs := [.int (s3 29 0), .int (s3 29 1), .ref (ad 30), .ref (ad 31), .ref (ad 32), .ref (ad 33), .ref (ad 34), .ref (ad 35), .int (s3 29 8), .ref (ad 36), .int (s3 29 10), .ref (ad 37), .ref (ad 38), .ref (ad 39), .ref (ad 40), .ref (ad 41), .ref (ad 42), .int (s3 29 17), .int (s3 29 18), .ref (ad 43), .ref (ad 44), .int (s3 29 21), .ref (ad 45), .ref (ad 46)]) (C := R_Mo) (T := F_Mo) (N := 24) hx hb hts iw_Mo ty_Mo ty_Mo_ok nn_Mo hown hK hP hD hS 29 rfl rfl 0 (by decide) (hts _ t_w247) (fun _ h9 => h9) rfl (by decide +kernel) rfl rfl (Nat.le_of_ble_eq_true rfl) d_Mo_waits_25 (fun H locs hP hD hS => ?_)
    rw [xf_29_0] at hP hD
    obtain ⟨s25, es25⟩ : ∃ z : MI, z = st2 s3 29 0 1 := ⟨_, rfl⟩
    rw [← es25] at hP hD
    replace hv := hv s25 es25
    exact j28 a1 s25 t3 _ _ _ hv hP hD hS (lv_sub hl [0, 1] rfl)
theorem d_Mo_share_0 : decode b_Mo_share 0 = .ok (.aload_n 0, 1) := by decide +kernel
theorem d_Mo_share_1 : decode b_Mo_share 1 = .ok (.iload_n 1, 1) := by decide +kernel
theorem d_Mo_share_2 : decode b_Mo_share 2 = .ok (.iconst 0, 1) := by decide +kernel
theorem d_Mo_share_3 : decode b_Mo_share 3 = .ok (.ldc 173, 2) := by decide +kernel
theorem d_Mo_share_5 : decode b_Mo_share 5 = .ok (.invokestatic 71, 3) := by decide +kernel
theorem d_Mo_share_8 : decode b_Mo_share 8 = .ok (.ifCond .eq 13, 3) := by decide +kernel
theorem d_Mo_share_11 : decode b_Mo_share 11 = .ok (.iload_n 2, 1) := by decide +kernel
theorem d_Mo_share_12 : decode b_Mo_share 12 = .ok (.iconst 0, 1) := by decide +kernel
theorem d_Mo_share_13 : decode b_Mo_share 13 = .ok (.ldc 173, 2) := by decide +kernel
theorem d_Mo_share_15 : decode b_Mo_share 15 = .ok (.invokestatic 71, 3) := by decide +kernel
theorem d_Mo_share_18 : decode b_Mo_share 18 = .ok (.ifCond .ne 7, 3) := by decide +kernel
theorem d_Mo_share_21 : decode b_Mo_share 21 = .ok (.iconst 1, 1) := by decide +kernel
theorem d_Mo_share_22 : decode b_Mo_share 22 = .ok (.goto 12, 3) := by decide +kernel
theorem d_Mo_share_25 : decode b_Mo_share 25 = .ok (.iload_n 2, 1) := by decide +kernel
theorem d_Mo_share_26 : decode b_Mo_share 26 = .ok (.ifCond .ne 7, 3) := by decide +kernel
theorem d_Mo_share_29 : decode b_Mo_share 29 = .ok (.iconst 2, 1) := by decide +kernel
theorem d_Mo_share_30 : decode b_Mo_share 30 = .ok (.goto 4, 3) := by decide +kernel
theorem d_Mo_share_33 : decode b_Mo_share 33 = .ok (.iconst 0, 1) := by decide +kernel
theorem d_Mo_share_34 : decode b_Mo_share 34 = .ok (.putfield 61, 3) := by decide +kernel
theorem d_Mo_share_37 : decode b_Mo_share 37 = .ok (.aload_n 0, 1) := by decide +kernel
theorem d_Mo_share_38 : decode b_Mo_share 38 = .ok (.getfield 61, 3) := by decide +kernel
theorem d_Mo_share_41 : decode b_Mo_share 41 = .ok (.ifCond .le 7, 3) := by decide +kernel
theorem d_Mo_share_44 : decode b_Mo_share 44 = .ok (.iconst 0, 1) := by decide +kernel
theorem d_Mo_share_45 : decode b_Mo_share 45 = .ok (.goto 9, 3) := by decide +kernel
theorem d_Mo_share_48 : decode b_Mo_share 48 = .ok (.bipush 100, 2) := by decide +kernel
theorem d_Mo_share_50 : decode b_Mo_share 50 = .ok (.iload_n 1, 1) := by decide +kernel
theorem d_Mo_share_51 : decode b_Mo_share 51 = .ok (.imul, 1) := by decide +kernel
theorem d_Mo_share_52 : decode b_Mo_share 52 = .ok (.iload_n 2, 1) := by decide +kernel
theorem d_Mo_share_53 : decode b_Mo_share 53 = .ok (.idiv, 1) := by decide +kernel
theorem d_Mo_share_54 : decode b_Mo_share 54 = .ok (.ireturn, 1) := by decide +kernel
def s_Mo_share_37 (P_Mo_in : MI → ML → Int32 → Int32 → Int32 → Prop) (Q_Mo_in : MI → ML → Int32 → Int32 → Int32 → Int32 → MI → ML → Prop) (σ : MI) (τ : ML) (x1 : Int32) (x2 : Int32) (R : Int32 → MI → ML → Prop) : Prop :=
  ((σ 29 0) ≤ 0 →
  (¬ (x2 : Int32) = 0 ∧ (R ((100 * x1) / x2) σ τ))) ∧
  (¬ (σ 29 0) ≤ 0 →
  (R 0 σ τ))
def s_Mo_share_0 (P_Mo_in : MI → ML → Int32 → Int32 → Int32 → Prop) (Q_Mo_in : MI → ML → Int32 → Int32 → Int32 → Int32 → MI → ML → Prop) (σ : MI) (τ : ML) (a1 : Int32) (a2 : Int32) (R : Int32 → MI → ML → Prop) : Prop :=
  P_Mo_in σ τ a1 0 1000000 ∧ ∀ (r5 : Int32) (s5 : MI) (t5 : ML), Q_Mo_in σ τ a1 0 1000000 r5 s5 t5 → ((r5 = 0 →
  (∀ s34 : MI, s34 = st2 s5 29 0 1 → (s_Mo_share_37 P_Mo_in Q_Mo_in s34 t5 a1 a2 R))) ∧
  (¬ r5 = 0 →
  (P_Mo_in s5 t5 a2 0 1000000 ∧ ∀ (r15 : Int32) (s15 : MI) (t15 : ML), Q_Mo_in s5 t5 a2 0 1000000 r15 s15 t15 → ((¬ r15 = 0 →
    ((¬ a2 = 0 →
      (∀ s34 : MI, s34 = st2 s15 29 0 0 → (s_Mo_share_37 P_Mo_in Q_Mo_in s34 t15 a1 a2 R))) ∧
      (a2 = 0 →
      (∀ s34 : MI, s34 = st2 s15 29 0 2 → (s_Mo_share_37 P_Mo_in Q_Mo_in s34 t15 a1 a2 R))))) ∧
    (r15 = 0 →
    (∀ s34 : MI, s34 = st2 s15 29 0 1 → (s_Mo_share_37 P_Mo_in Q_Mo_in s34 t15 a1 a2 R)))))))
set_option maxHeartbeats 4000000 in
set_option maxRecDepth 100000 in
theorem k_Mo_share (l : Launch) (D : va_G) (ad : Nat → Nat) (ci cl : ClassId)
    (pre : MI → ML → Int32 → Int32 → Prop) (post : MI → ML → Int32 → Int32 → Int32 → MI → ML → Prop) (P_Mo_in : MI → ML → Int32 → Int32 → Int32 → Prop) (Q_Mo_in : MI → ML → Int32 → Int32 → Int32 → Int32 → MI → ML → Prop)
    (h_Mo_in : ∀ (sz : Nat) (σ : MI) (τ : ML) (b0 : Int32) (b1 : Int32) (b2 : Int32), P_Mo_in σ τ b0 b1 b2 → gMi l D (xw ad ci cl) (xt ci cl) (xa ad) y_Mo_in w_Mo_in rm_Mo_in [.int b0, .int b1, .int b2] sz σ τ (Q_Mo_in σ τ b0 b1 b2))
    (v0 : ∀ (σ0 : MI) (τ0 : ML) (a1 : Int32) (a2 : Int32), pre σ0 τ0 a1 a2 → s_Mo_share_0 P_Mo_in Q_Mo_in σ0 τ0 a1 a2 (post σ0 τ0 a1 a2)) :
    ∀ (sz : Nat) (σ0 : MI) (τ0 : ML) (a1 : Int32) (a2 : Int32), pre σ0 τ0 a1 a2 → gMi l D (xw ad ci cl) (xt ci cl) (xa ad) y_Mo_share w_Mo_share rm_Mo_share [.ref (ad 29), .int a1, .int a2] sz σ0 τ0 (post σ0 τ0 a1 a2) := by
  intro sz σ0 τ0 a1 a2 hpre
  refine gk_ofWi (cc := b_Mo_share) (maxL := 3) (ret := (some .int)) (by decide) rfl xa_ok (Nat.le_of_ble_eq_true rfl) ?_
  intro p e s m below meth c ls hx hb hr hlocks hml hown hts hK hP hD hS hl
  have hl : lv_has ls 3 [(0, .ref (ad 29)), (1, .int a1), (2, .int a2)] := hl
  have hown : s.vm.findClass R_Mo = some m.cls := hown
  have hv := v0 σ0 τ0 a1 a2 hpre
  unfold s_Mo_share_0 at hv
  have j37 : ∀ (w1 : Int32) (w2 : Int32) (σ1 : MI) (τ1 : ML) (H : Heap) (locs : List Loc) (ls : Array Slot), s_Mo_share_37 P_Mo_in Q_Mo_in σ1 τ1 w1 w2 (post σ0 τ0 a1 a2) → va_P D classes ((xw ad ci cl) σ1 τ1) H → va_D (gA (xa ad) s.heap.size) ((xw ad ci cl) σ1 τ1) → va_S (gA (xa ad) s.heap.size) s.heap H locs → lv_has ls 3 [(0, .ref (ad 29)), (1, .int w1), (2, .int w2)] → W p l e rm_Mo_share s m [.ref (ad 29), .int a1, .int a2].toArray below meth c H locs 0 0 (gQi D (xw ad ci cl) (xt ci cl) (xa ad) below [.ref (ad 29), .int a1, .int a2] s (post σ0 τ0 a1 a2)) (F0 m 37 ls []) := by
    intro w1 w2 σ1 τ1 H locs ls hv hP hD hS hl
    unfold s_Mo_share_37 at hv
    refine lv_aload_n hx hb d_Mo_share_37 rfl (lv_at hl 0 rfl) ?_
    refine va_get (D := D) (ci := 7) (v := .int (σ1 29 0)) (C := R_Mo) (T := F_Mo) (N := 24) hx hb hts iw_Mo hown hK hP 29 rfl rfl 0 (by decide) (hts _ t_w247) (fun _ h9 => h9) rfl d_Mo_share_38 ?_
    refine lv_if_le (tgt := 48) hx hb d_Mo_share_41 (by decide) (fun hc => ?_) (fun hc => ?_)
    · replace hv := hv.1 hc
      refine lv_bipush (v := 100) hx hb d_Mo_share_48 (by decide) ?_
      refine lv_iload_n hx hb d_Mo_share_50 rfl (lv_at hl 1 rfl) ?_
      refine lv_imul hx hb d_Mo_share_51 ?_
      refine lv_iload_n hx hb d_Mo_share_52 rfl (lv_at hl 2 rfl) ?_
      obtain ⟨hne, hv⟩ := hv
      refine lv_idiv hx hb d_Mo_share_53 hne ?_
      exact gk_iret hx hb hr hlocks hK hP hD hS hv d_Mo_share_54
    · replace hv := hv.2 hc
      refine lv_iconst (v := 0) hx hb d_Mo_share_44 (by decide) ?_
      refine lv_goto (tgt := 54) hx hb d_Mo_share_45 (by decide) ?_
      exact gk_iret hx hb hr hlocks hK hP hD hS hv d_Mo_share_54
  refine lv_aload_n hx hb d_Mo_share_0 rfl (lv_at hl 0 rfl) ?_
  refine lv_iload_n hx hb d_Mo_share_1 rfl (lv_at hl 1 rfl) ?_
  refine lv_iconst (v := 0) hx hb d_Mo_share_2 (by decide) ?_
  refine lv_ldc (v := 1000000) hx hb hown (hts _ t_w377) d_Mo_share_3 ?_
  obtain ⟨hg, hv⟩ := hv
  refine gk_callSi (As := [.int a1, .int 0, .int 1000000]) (rest := [.ref (ad 29)]) ⟨hx, hb, hml, hown, hts⟩ (h_Mo_in _ σ0 τ0 a1 0 1000000 hg) (gk_cwS 3 hts t_w253 rfl rfl rfl (hts _ t_w250) (hts _ t_w251) (hts _ t_w252) (by decide +kernel) ⟨Nat.le_of_ble_eq_true rfl, Nat.le_of_ble_eq_true rfl⟩) hK hP hD hS rfl hl.1 rfl (lv_room (Nat.le_of_ble_eq_true rfl)) d_Mo_share_5 ⟨Nat.zero_le _, Nat.zero_le _⟩ ?_
  intro r5 s5 t5 H locs hw hP hD hS
  replace hv := hv r5 s5 t5 hw
  refine lv_if_eq (tgt := 21) hx hb d_Mo_share_8 (by decide) (fun hc => ?_) (fun hc => ?_)
  · replace hv := hv.1 hc
    refine lv_iconst (v := 1) hx hb d_Mo_share_21 (by decide) ?_
    refine lv_goto (tgt := 34) hx hb d_Mo_share_22 (by decide) ?_
    refine va_put (D := D) (ci := 7) (v := .int 1) (ty := .int) (fs := [.int (s5 29 0), .int (s5 29 1), .ref (ad 30), .ref (ad 31), .ref (ad 32), .ref (ad 33), .ref (ad 34), .ref (ad 35), .int (s5 29 8), .ref (ad 36), .int (s5 29 10), .ref (ad 37), .ref (ad 38), .ref (ad 39), .ref (ad 40), .ref (ad 41), .ref (ad 42), .int (s5 29 17), .int (s5 29 18), .ref (ad 43), .ref (ad 44), .int (s5 29 21), .ref (ad 45), .ref (ad 46)]) (C := R_Mo) (T := F_Mo) (N := 24) hx hb hts iw_Mo ty_Mo ty_Mo_ok nn_Mo hown hK hP hD hS 29 rfl rfl 0 (by decide) (hts _ t_w247) (fun _ h9 => h9) rfl (by decide +kernel) rfl rfl (Nat.le_of_ble_eq_true rfl) d_Mo_share_34 (fun H locs hP hD hS => ?_)
    rw [xf_29_0] at hP hD
    obtain ⟨s34, es34⟩ : ∃ z : MI, z = st2 s5 29 0 1 := ⟨_, rfl⟩
    rw [← es34] at hP hD
    replace hv := hv s34 es34
    exact j37 a1 a2 s34 t5 _ _ _ hv hP hD hS (lv_sub hl [0, 1, 2] rfl)
  · replace hv := hv.2 hc
    refine lv_iload_n hx hb d_Mo_share_11 rfl (lv_at hl 2 rfl) ?_
    refine lv_iconst (v := 0) hx hb d_Mo_share_12 (by decide) ?_
    refine lv_ldc (v := 1000000) hx hb hown (hts _ t_w377) d_Mo_share_13 ?_
    obtain ⟨hg, hv⟩ := hv
    refine gk_callSi (As := [.int a2, .int 0, .int 1000000]) (rest := [.ref (ad 29)]) ⟨hx, hb, hml, hown, hts⟩ (h_Mo_in _ s5 t5 a2 0 1000000 hg) (gk_cwS 3 hts t_w253 rfl rfl rfl (hts _ t_w250) (hts _ t_w251) (hts _ t_w252) (by decide +kernel) ⟨Nat.le_of_ble_eq_true rfl, Nat.le_of_ble_eq_true rfl⟩) hK hP hD hS rfl hl.1 rfl (lv_room (Nat.le_of_ble_eq_true rfl)) d_Mo_share_15 ⟨Nat.zero_le _, Nat.zero_le _⟩ ?_
    intro r15 s15 t15 H locs hw hP hD hS
    replace hv := hv r15 s15 t15 hw
    refine lv_if_ne (tgt := 25) hx hb d_Mo_share_18 (by decide) (fun hc => ?_) (fun hc => ?_)
    · replace hv := hv.1 hc
      refine lv_iload_n hx hb d_Mo_share_25 rfl (lv_at hl 2 rfl) ?_
      refine lv_if_ne (tgt := 33) hx hb d_Mo_share_26 (by decide) (fun hc => ?_) (fun hc => ?_)
      · replace hv := hv.1 hc
        refine lv_iconst (v := 0) hx hb d_Mo_share_33 (by decide) ?_
        refine va_put (D := D) (ci := 7) (v := .int 0) (ty := .int) (fs := [.int (s15 29 0), .int (s15 29 1), .ref (ad 30), .ref (ad 31), .ref (ad 32), .ref (ad 33), .ref (ad 34), .ref (ad 35), .int (s15 29 8), .ref (ad 36), .int (s15 29 10), .ref (ad 37), .ref (ad 38), .ref (ad 39), .ref (ad 40), .ref (ad 41), .ref (ad 42), .int (s15 29 17), .int (s15 29 18), .ref (ad 43), .ref (ad 44), .int (s15 29 21), .ref (ad 45), .ref (ad 46)]) (C := R_Mo) (T := F_Mo) (N := 24) hx hb hts iw_Mo ty_Mo ty_Mo_ok nn_Mo hown hK hP hD hS 29 rfl rfl 0 (by decide) (hts _ t_w247) (fun _ h9 => h9) rfl (by decide +kernel) rfl rfl (Nat.le_of_ble_eq_true rfl) d_Mo_share_34 (fun H locs hP hD hS => ?_)
        rw [xf_29_0] at hP hD
        obtain ⟨s34, es34⟩ : ∃ z : MI, z = st2 s15 29 0 0 := ⟨_, rfl⟩
        rw [← es34] at hP hD
        replace hv := hv s34 es34
        exact j37 a1 a2 s34 t15 _ _ _ hv hP hD hS (lv_sub hl [0, 1, 2] rfl)
      · replace hv := hv.2 hc
        refine lv_iconst (v := 2) hx hb d_Mo_share_29 (by decide) ?_
        refine lv_goto (tgt := 34) hx hb d_Mo_share_30 (by decide) ?_
        refine va_put (D := D) (ci := 7) (v := .int 2) (ty := .int) (fs := [.int (s15 29 0), .int (s15 29 1), .ref (ad 30), .ref (ad 31), .ref (ad 32), .ref (ad 33), .ref (ad 34), .ref (ad 35), .int (s15 29 8), .ref (ad 36), .int (s15 29 10), .ref (ad 37), .ref (ad 38), .ref (ad 39), .ref (ad 40), .ref (ad 41), .ref (ad 42), .int (s15 29 17), .int (s15 29 18), .ref (ad 43), .ref (ad 44), .int (s15 29 21), .ref (ad 45), .ref (ad 46)]) (C := R_Mo) (T := F_Mo) (N := 24) hx hb hts iw_Mo ty_Mo ty_Mo_ok nn_Mo hown hK hP hD hS 29 rfl rfl 0 (by decide) (hts _ t_w247) (fun _ h9 => h9) rfl (by decide +kernel) rfl rfl (Nat.le_of_ble_eq_true rfl) d_Mo_share_34 (fun H locs hP hD hS => ?_)
        rw [xf_29_0] at hP hD
        obtain ⟨s34, es34⟩ : ∃ z : MI, z = st2 s15 29 0 2 := ⟨_, rfl⟩
        rw [← es34] at hP hD
        replace hv := hv s34 es34
        exact j37 a1 a2 s34 t15 _ _ _ hv hP hD hS (lv_sub hl [0, 1, 2] rfl)
    · replace hv := hv.2 hc
      refine lv_iconst (v := 1) hx hb d_Mo_share_21 (by decide) ?_
      refine lv_goto (tgt := 34) hx hb d_Mo_share_22 (by decide) ?_
      refine va_put (D := D) (ci := 7) (v := .int 1) (ty := .int) (fs := [.int (s15 29 0), .int (s15 29 1), .ref (ad 30), .ref (ad 31), .ref (ad 32), .ref (ad 33), .ref (ad 34), .ref (ad 35), .int (s15 29 8), .ref (ad 36), .int (s15 29 10), .ref (ad 37), .ref (ad 38), .ref (ad 39), .ref (ad 40), .ref (ad 41), .ref (ad 42), .int (s15 29 17), .int (s15 29 18), .ref (ad 43), .ref (ad 44), .int (s15 29 21), .ref (ad 45), .ref (ad 46)]) (C := R_Mo) (T := F_Mo) (N := 24) hx hb hts iw_Mo ty_Mo ty_Mo_ok nn_Mo hown hK hP hD hS 29 rfl rfl 0 (by decide) (hts _ t_w247) (fun _ h9 => h9) rfl (by decide +kernel) rfl rfl (Nat.le_of_ble_eq_true rfl) d_Mo_share_34 (fun H locs hP hD hS => ?_)
      rw [xf_29_0] at hP hD
      obtain ⟨s34, es34⟩ : ∃ z : MI, z = st2 s15 29 0 1 := ⟨_, rfl⟩
      rw [← es34] at hP hD
      replace hv := hv s34 es34
      exact j37 a1 a2 s34 t15 _ _ _ hv hP hD hS (lv_sub hl [0, 1, 2] rfl)
theorem d_Mo_count_0 : decode b_Mo_count 0 = .ok (.aload_n 0, 1) := by decide +kernel
theorem d_Mo_count_1 : decode b_Mo_count 1 = .ok (.iconst 0, 1) := by decide +kernel
theorem d_Mo_count_2 : decode b_Mo_count 2 = .ok (.putfield 61, 3) := by decide +kernel
theorem d_Mo_count_5 : decode b_Mo_count 5 = .ok (.iload_n 1, 1) := by decide +kernel
theorem d_Mo_count_6 : decode b_Mo_count 6 = .ok (.bipush 10, 2) := by decide +kernel
theorem d_Mo_count_8 : decode b_Mo_count 8 = .ok (.if_icmp .lt 28, 3) := by decide +kernel
theorem d_Mo_count_11 : decode b_Mo_count 11 = .ok (.aload_n 0, 1) := by decide +kernel
theorem d_Mo_count_12 : decode b_Mo_count 12 = .ok (.iload_n 1, 1) := by decide +kernel
theorem d_Mo_count_13 : decode b_Mo_count 13 = .ok (.bipush 10, 2) := by decide +kernel
theorem d_Mo_count_15 : decode b_Mo_count 15 = .ok (.isub, 1) := by decide +kernel
theorem d_Mo_count_16 : decode b_Mo_count 16 = .ok (.invokevirtual 97, 3) := by decide +kernel
theorem d_Mo_count_19 : decode b_Mo_count 19 = .ok (.ifCond .eq 15, 3) := by decide +kernel
theorem d_Mo_count_22 : decode b_Mo_count 22 = .ok (.aload_n 0, 1) := by decide +kernel
theorem d_Mo_count_23 : decode b_Mo_count 23 = .ok (.getfield 25, 3) := by decide +kernel
theorem d_Mo_count_26 : decode b_Mo_count 26 = .ok (.iload_n 1, 1) := by decide +kernel
theorem d_Mo_count_27 : decode b_Mo_count 27 = .ok (.bipush 10, 2) := by decide +kernel
theorem d_Mo_count_29 : decode b_Mo_count 29 = .ok (.isub, 1) := by decide +kernel
theorem d_Mo_count_30 : decode b_Mo_count 30 = .ok (.iaload, 1) := by decide +kernel
theorem d_Mo_count_31 : decode b_Mo_count 31 = .ok (.goto 4, 3) := by decide +kernel
theorem d_Mo_count_34 : decode b_Mo_count 34 = .ok (.iconst (-1), 1) := by decide +kernel
theorem d_Mo_count_35 : decode b_Mo_count 35 = .ok (.ireturn, 1) := by decide +kernel
theorem d_Mo_count_36 : decode b_Mo_count 36 = .ok (.iload_n 1, 1) := by decide +kernel
theorem d_Mo_count_37 : decode b_Mo_count 37 = .ok (.tableswitch 99 0 5 #[39, 44, 49, 54, 67, 83], 39) := by decide +kernel
theorem d_Mo_count_76 : decode b_Mo_count 76 = .ok (.aload_n 0, 1) := by decide +kernel
theorem d_Mo_count_77 : decode b_Mo_count 77 = .ok (.getfield 65, 3) := by decide +kernel
theorem d_Mo_count_80 : decode b_Mo_count 80 = .ok (.ireturn, 1) := by decide +kernel
theorem d_Mo_count_81 : decode b_Mo_count 81 = .ok (.aload_n 0, 1) := by decide +kernel
theorem d_Mo_count_82 : decode b_Mo_count 82 = .ok (.getfield 91, 3) := by decide +kernel
theorem d_Mo_count_85 : decode b_Mo_count 85 = .ok (.ireturn, 1) := by decide +kernel
theorem d_Mo_count_86 : decode b_Mo_count 86 = .ok (.aload_n 0, 1) := by decide +kernel
theorem d_Mo_count_87 : decode b_Mo_count 87 = .ok (.getfield 68, 3) := by decide +kernel
theorem d_Mo_count_90 : decode b_Mo_count 90 = .ok (.ireturn, 1) := by decide +kernel
theorem d_Mo_count_91 : decode b_Mo_count 91 = .ok (.aload_n 0, 1) := by decide +kernel
theorem d_Mo_count_92 : decode b_Mo_count 92 = .ok (.getfield 87, 3) := by decide +kernel
theorem d_Mo_count_95 : decode b_Mo_count 95 = .ok (.ifCond .eq 7, 3) := by decide +kernel
theorem d_Mo_count_98 : decode b_Mo_count 98 = .ok (.iconst 1, 1) := by decide +kernel
theorem d_Mo_count_99 : decode b_Mo_count 99 = .ok (.goto 4, 3) := by decide +kernel
theorem d_Mo_count_102 : decode b_Mo_count 102 = .ok (.iconst 0, 1) := by decide +kernel
theorem d_Mo_count_103 : decode b_Mo_count 103 = .ok (.ireturn, 1) := by decide +kernel
theorem d_Mo_count_104 : decode b_Mo_count 104 = .ok (.aload_n 0, 1) := by decide +kernel
theorem d_Mo_count_105 : decode b_Mo_count 105 = .ok (.getfield 87, 3) := by decide +kernel
theorem d_Mo_count_108 : decode b_Mo_count 108 = .ok (.ifCond .eq 10, 3) := by decide +kernel
theorem d_Mo_count_111 : decode b_Mo_count 111 = .ok (.aload_n 0, 1) := by decide +kernel
theorem d_Mo_count_112 : decode b_Mo_count 112 = .ok (.invokevirtual 155, 3) := by decide +kernel
theorem d_Mo_count_115 : decode b_Mo_count 115 = .ok (.goto 4, 3) := by decide +kernel
theorem d_Mo_count_118 : decode b_Mo_count 118 = .ok (.iconst (-1), 1) := by decide +kernel
theorem d_Mo_count_119 : decode b_Mo_count 119 = .ok (.ireturn, 1) := by decide +kernel
theorem d_Mo_count_120 : decode b_Mo_count 120 = .ok (.aload_n 0, 1) := by decide +kernel
theorem d_Mo_count_121 : decode b_Mo_count 121 = .ok (.getfield 87, 3) := by decide +kernel
theorem d_Mo_count_124 : decode b_Mo_count 124 = .ok (.ifCond .eq 10, 3) := by decide +kernel
theorem d_Mo_count_127 : decode b_Mo_count 127 = .ok (.aload_n 0, 1) := by decide +kernel
theorem d_Mo_count_128 : decode b_Mo_count 128 = .ok (.getfield 105, 3) := by decide +kernel
theorem d_Mo_count_131 : decode b_Mo_count 131 = .ok (.goto 4, 3) := by decide +kernel
theorem d_Mo_count_134 : decode b_Mo_count 134 = .ok (.iconst (-1), 1) := by decide +kernel
theorem d_Mo_count_135 : decode b_Mo_count 135 = .ok (.ireturn, 1) := by decide +kernel
theorem d_Mo_count_136 : decode b_Mo_count 136 = .ok (.iconst (-1), 1) := by decide +kernel
theorem d_Mo_count_137 : decode b_Mo_count 137 = .ok (.ireturn, 1) := by decide +kernel
def s_Mo_count_0 (P_Mo_givenMany : MI → ML → Prop) (Q_Mo_givenMany : MI → ML → Int32 → MI → ML → Prop) (P_Mo_isPerson : MI → ML → Int32 → Prop) (Q_Mo_isPerson : MI → ML → Int32 → Int32 → MI → ML → Prop) (σ : MI) (τ : ML) (a1 : Int32) (R : Int32 → MI → ML → Prop) : Prop :=
  ∀ s2 : MI, s2 = st2 σ 29 0 0 → ((a1 < 10 →
  ((a1 = 0 →
    (R (s2 29 1) s2 τ)) ∧ (¬ a1 = 0 →
    ((a1 = 1 →
    (R (s2 29 8) s2 τ)) ∧ (¬ a1 = 1 →
    ((a1 = 2 →
    (R (s2 29 10) s2 τ)) ∧ (¬ a1 = 2 →
    ((a1 = 3 →
    (((s2 29 18) = 0 →
      (R 0 s2 τ)) ∧
      (¬ (s2 29 18) = 0 →
      (R 1 s2 τ)))) ∧ (¬ a1 = 3 →
    ((a1 = 4 →
    (((s2 29 18) = 0 →
      (R ((-1)) s2 τ)) ∧
      (¬ (s2 29 18) = 0 →
      (P_Mo_givenMany s2 τ  ∧ ∀ (r112 : Int32) (s112 : MI) (t112 : ML), Q_Mo_givenMany s2 τ  r112 s112 t112 → (R r112 s112 t112))))) ∧ (¬ a1 = 4 →
    ((a1 = 5 →
    (((s2 29 18) = 0 →
      (R ((-1)) s2 τ)) ∧
      (¬ (s2 29 18) = 0 →
      (R (s2 29 21) s2 τ)))) ∧ (¬ a1 = 5 →
    (R ((-1)) s2 τ)))))))))))))) ∧
  (¬ a1 < 10 →
  (P_Mo_isPerson s2 τ (a1 - 10) ∧ ∀ (r16 : Int32) (s16 : MI) (t16 : ML), Q_Mo_isPerson s2 τ (a1 - 10) r16 s16 t16 → ((r16 = 0 →
    (R ((-1)) s16 t16)) ∧
    (¬ r16 = 0 →
    (vp_in (a1 - 10) 4 ∧ (R (s16 35 (Int32.toNatClampNeg (a1 - 10))) s16 t16)))))))
set_option maxHeartbeats 4000000 in
set_option maxRecDepth 100000 in
theorem k_Mo_count (l : Launch) (D : va_G) (ad : Nat → Nat) (ci cl : ClassId)
    (pre : MI → ML → Int32 → Prop) (post : MI → ML → Int32 → Int32 → MI → ML → Prop) (P_Mo_givenMany : MI → ML → Prop) (Q_Mo_givenMany : MI → ML → Int32 → MI → ML → Prop) (P_Mo_isPerson : MI → ML → Int32 → Prop) (Q_Mo_isPerson : MI → ML → Int32 → Int32 → MI → ML → Prop)
    (h_Mo_givenMany : ∀ (sz : Nat) (σ : MI) (τ : ML), P_Mo_givenMany σ τ → gMi l D (xw ad ci cl) (xt ci cl) (xa ad) y_Mo_givenMany w_Mo_givenMany rm_Mo_givenMany [.ref (ad 29)] sz σ τ (Q_Mo_givenMany σ τ))
    (h_Mo_isPerson : ∀ (sz : Nat) (σ : MI) (τ : ML) (b0 : Int32), P_Mo_isPerson σ τ b0 → gMi l D (xw ad ci cl) (xt ci cl) (xa ad) y_Mo_isPerson w_Mo_isPerson rm_Mo_isPerson [.ref (ad 29), .int b0] sz σ τ (Q_Mo_isPerson σ τ b0))
    (v0 : ∀ (σ0 : MI) (τ0 : ML) (a1 : Int32), pre σ0 τ0 a1 → s_Mo_count_0 P_Mo_givenMany Q_Mo_givenMany P_Mo_isPerson Q_Mo_isPerson σ0 τ0 a1 (post σ0 τ0 a1)) :
    ∀ (sz : Nat) (σ0 : MI) (τ0 : ML) (a1 : Int32), pre σ0 τ0 a1 → gMi l D (xw ad ci cl) (xt ci cl) (xa ad) y_Mo_count w_Mo_count rm_Mo_count [.ref (ad 29), .int a1] sz σ0 τ0 (post σ0 τ0 a1) := by
  intro sz σ0 τ0 a1 hpre
  refine gk_ofWi (cc := b_Mo_count) (maxL := 2) (ret := (some .int)) (by decide) rfl xa_ok (Nat.le_of_ble_eq_true rfl) ?_
  intro p e s m below meth c ls hx hb hr hlocks hml hown hts hK hP hD hS hl
  have hl : lv_has ls 2 [(0, .ref (ad 29)), (1, .int a1)] := hl
  have hown : s.vm.findClass R_Mo = some m.cls := hown
  have hv := v0 σ0 τ0 a1 hpre
  unfold s_Mo_count_0 at hv
  refine lv_aload_n hx hb d_Mo_count_0 rfl (lv_at hl 0 rfl) ?_
  refine lv_iconst (v := 0) hx hb d_Mo_count_1 (by decide) ?_
  refine va_put (D := D) (ci := 7) (v := .int 0) (ty := .int) (fs := [.int (σ0 29 0), .int (σ0 29 1), .ref (ad 30), .ref (ad 31), .ref (ad 32), .ref (ad 33), .ref (ad 34), .ref (ad 35), .int (σ0 29 8), .ref (ad 36), .int (σ0 29 10), .ref (ad 37), .ref (ad 38), .ref (ad 39), .ref (ad 40), .ref (ad 41), .ref (ad 42), .int (σ0 29 17), .int (σ0 29 18), .ref (ad 43), .ref (ad 44), .int (σ0 29 21), .ref (ad 45), .ref (ad 46)]) (C := R_Mo) (T := F_Mo) (N := 24) hx hb hts iw_Mo ty_Mo ty_Mo_ok nn_Mo hown hK hP hD hS 29 rfl rfl 0 (by decide) (hts _ t_w247) (fun _ h9 => h9) rfl (by decide +kernel) rfl rfl (Nat.le_of_ble_eq_true rfl) d_Mo_count_2 (fun H locs hP hD hS => ?_)
  rw [xf_29_0] at hP hD
  obtain ⟨s2, es2⟩ : ∃ z : MI, z = st2 σ0 29 0 0 := ⟨_, rfl⟩
  rw [← es2] at hP hD
  replace hv := hv s2 es2
  refine lv_iload_n hx hb d_Mo_count_5 rfl (lv_at hl 1 rfl) ?_
  refine lv_bipush (v := 10) hx hb d_Mo_count_6 (by decide) ?_
  refine lv_icmp_lt (tgt := 36) hx hb d_Mo_count_8 (by decide) (fun hc => ?_) (fun hc => ?_)
  · replace hv := hv.1 hc
    refine lv_iload_n hx hb d_Mo_count_36 rfl (lv_at hl 1 rfl) ?_
    by_cases hc0 : a1 = 0
    · replace hv := hv.1 hc0
      refine lv_tableIn (off := 39) (tgt := 76) hx hb d_Mo_count_37 (by rw [hc0]; decide) (by rw [hc0]; decide) (by rw [hc0]; rfl) (by decide) ?_
      refine lv_aload_n hx hb d_Mo_count_76 rfl (lv_at hl 0 rfl) ?_
      refine va_get (D := D) (ci := 7) (v := .int (s2 29 1)) (C := R_Mo) (T := F_Mo) (N := 24) hx hb hts iw_Mo hown hK hP 29 rfl rfl 1 (by decide) (hts _ t_w248) (fun _ h9 => h9) rfl d_Mo_count_77 ?_
      exact gk_iret hx hb hr hlocks hK hP hD hS hv d_Mo_count_80
    replace hv := hv.2 hc0
    by_cases hc1 : a1 = 1
    · replace hv := hv.1 hc1
      refine lv_tableIn (off := 44) (tgt := 81) hx hb d_Mo_count_37 (by rw [hc1]; decide) (by rw [hc1]; decide) (by rw [hc1]; rfl) (by decide) ?_
      refine lv_aload_n hx hb d_Mo_count_81 rfl (lv_at hl 0 rfl) ?_
      refine va_get (D := D) (ci := 7) (v := .int (s2 29 8)) (C := R_Mo) (T := F_Mo) (N := 24) hx hb hts iw_Mo hown hK hP 29 rfl rfl 8 (by decide) (hts _ t_w269) (fun _ h9 => h9) rfl d_Mo_count_82 ?_
      exact gk_iret hx hb hr hlocks hK hP hD hS hv d_Mo_count_85
    replace hv := hv.2 hc1
    by_cases hc2 : a1 = 2
    · replace hv := hv.1 hc2
      refine lv_tableIn (off := 49) (tgt := 86) hx hb d_Mo_count_37 (by rw [hc2]; decide) (by rw [hc2]; decide) (by rw [hc2]; rfl) (by decide) ?_
      refine lv_aload_n hx hb d_Mo_count_86 rfl (lv_at hl 0 rfl) ?_
      refine va_get (D := D) (ci := 7) (v := .int (s2 29 10)) (C := R_Mo) (T := F_Mo) (N := 24) hx hb hts iw_Mo hown hK hP 29 rfl rfl 10 (by decide) (hts _ t_w249) (fun _ h9 => h9) rfl d_Mo_count_87 ?_
      exact gk_iret hx hb hr hlocks hK hP hD hS hv d_Mo_count_90
    replace hv := hv.2 hc2
    by_cases hc3 : a1 = 3
    · replace hv := hv.1 hc3
      refine lv_tableIn (off := 54) (tgt := 91) hx hb d_Mo_count_37 (by rw [hc3]; decide) (by rw [hc3]; decide) (by rw [hc3]; rfl) (by decide) ?_
      refine lv_aload_n hx hb d_Mo_count_91 rfl (lv_at hl 0 rfl) ?_
      refine va_get (D := D) (ci := 7) (v := .int (s2 29 18)) (C := R_Mo) (T := F_Mo) (N := 24) hx hb hts iw_Mo hown hK hP 29 rfl rfl 18 (by decide) (hts _ t_w268) (fun _ h9 => h9) rfl d_Mo_count_92 ?_
      refine lv_if_eq (tgt := 102) hx hb d_Mo_count_95 (by decide) (fun hc => ?_) (fun hc => ?_)
      · replace hv := hv.1 hc
        refine lv_iconst (v := 0) hx hb d_Mo_count_102 (by decide) ?_
        exact gk_iret hx hb hr hlocks hK hP hD hS hv d_Mo_count_103
      · replace hv := hv.2 hc
        refine lv_iconst (v := 1) hx hb d_Mo_count_98 (by decide) ?_
        refine lv_goto (tgt := 103) hx hb d_Mo_count_99 (by decide) ?_
        exact gk_iret hx hb hr hlocks hK hP hD hS hv d_Mo_count_103
    replace hv := hv.2 hc3
    by_cases hc4 : a1 = 4
    · replace hv := hv.1 hc4
      refine lv_tableIn (off := 67) (tgt := 104) hx hb d_Mo_count_37 (by rw [hc4]; decide) (by rw [hc4]; decide) (by rw [hc4]; rfl) (by decide) ?_
      refine lv_aload_n hx hb d_Mo_count_104 rfl (lv_at hl 0 rfl) ?_
      refine va_get (D := D) (ci := 7) (v := .int (s2 29 18)) (C := R_Mo) (T := F_Mo) (N := 24) hx hb hts iw_Mo hown hK hP 29 rfl rfl 18 (by decide) (hts _ t_w268) (fun _ h9 => h9) rfl d_Mo_count_105 ?_
      refine lv_if_eq (tgt := 118) hx hb d_Mo_count_108 (by decide) (fun hc => ?_) (fun hc => ?_)
      · replace hv := hv.1 hc
        refine lv_iconst (v := (-1)) hx hb d_Mo_count_118 (by decide) ?_
        exact gk_iret hx hb hr hlocks hK hP hD hS hv d_Mo_count_119
      · replace hv := hv.2 hc
        refine lv_aload_n hx hb d_Mo_count_111 rfl (lv_at hl 0 rfl) ?_
        obtain ⟨hg, hv⟩ := hv
        refine gk_callVi (As := []) (rest := []) (b := ad 29) ⟨hx, hb, hml, hown, hts⟩ (h_Mo_givenMany _ s2 τ0  hg) (gk_cwV 0 hts t_w356 rfl rfl rfl (hts _ t_w353) (hts _ t_w354) (hts _ t_w355) (hts _ t_w252) (by decide +kernel) ⟨Nat.le_of_ble_eq_true rfl, Nat.le_of_ble_eq_true rfl⟩) hK hP hD hS (va_recv hK hP (ci := 7) (q0 := 29) rfl rfl) rfl hl.1 rfl (lv_room (Nat.le_of_ble_eq_true rfl)) d_Mo_count_112 ⟨Nat.zero_le _, Nat.zero_le _⟩ ?_
        intro r112 s112 t112 H locs hw hP hD hS
        replace hv := hv r112 s112 t112 hw
        refine lv_goto (tgt := 119) hx hb d_Mo_count_115 (by decide) ?_
        exact gk_iret hx hb hr hlocks hK hP hD hS hv d_Mo_count_119
    replace hv := hv.2 hc4
    by_cases hc5 : a1 = 5
    · replace hv := hv.1 hc5
      refine lv_tableIn (off := 83) (tgt := 120) hx hb d_Mo_count_37 (by rw [hc5]; decide) (by rw [hc5]; decide) (by rw [hc5]; rfl) (by decide) ?_
      refine lv_aload_n hx hb d_Mo_count_120 rfl (lv_at hl 0 rfl) ?_
      refine va_get (D := D) (ci := 7) (v := .int (s2 29 18)) (C := R_Mo) (T := F_Mo) (N := 24) hx hb hts iw_Mo hown hK hP 29 rfl rfl 18 (by decide) (hts _ t_w268) (fun _ h9 => h9) rfl d_Mo_count_121 ?_
      refine lv_if_eq (tgt := 134) hx hb d_Mo_count_124 (by decide) (fun hc => ?_) (fun hc => ?_)
      · replace hv := hv.1 hc
        refine lv_iconst (v := (-1)) hx hb d_Mo_count_134 (by decide) ?_
        exact gk_iret hx hb hr hlocks hK hP hD hS hv d_Mo_count_135
      · replace hv := hv.2 hc
        refine lv_aload_n hx hb d_Mo_count_127 rfl (lv_at hl 0 rfl) ?_
        refine va_get (D := D) (ci := 7) (v := .int (s2 29 21)) (C := R_Mo) (T := F_Mo) (N := 24) hx hb hts iw_Mo hown hK hP 29 rfl rfl 21 (by decide) (hts _ t_w288) (fun _ h9 => h9) rfl d_Mo_count_128 ?_
        refine lv_goto (tgt := 135) hx hb d_Mo_count_131 (by decide) ?_
        exact gk_iret hx hb hr hlocks hK hP hD hS hv d_Mo_count_135
    replace hv := hv.2 hc5
    refine lv_tableOut (tgt := 136) hx hb d_Mo_count_37 (by have h0 := gk_ne hc0 (z := 0) (by decide); have h1 := gk_ne hc1 (z := 1) (by decide); have h2 := gk_ne hc2 (z := 2) (by decide); have h3 := gk_ne hc3 (z := 3) (by decide); have h4 := gk_ne hc4 (z := 4) (by decide); have h5 := gk_ne hc5 (z := 5) (by decide); omega) (by decide) ?_
    refine lv_iconst (v := (-1)) hx hb d_Mo_count_136 (by decide) ?_
    exact gk_iret hx hb hr hlocks hK hP hD hS hv d_Mo_count_137
  · replace hv := hv.2 hc
    refine lv_aload_n hx hb d_Mo_count_11 rfl (lv_at hl 0 rfl) ?_
    refine lv_iload_n hx hb d_Mo_count_12 rfl (lv_at hl 1 rfl) ?_
    refine lv_bipush (v := 10) hx hb d_Mo_count_13 (by decide) ?_
    refine lv_isub hx hb d_Mo_count_15 ?_
    obtain ⟨hg, hv⟩ := hv
    refine gk_callVi (As := [.int (a1 - 10)]) (rest := []) (b := ad 29) ⟨hx, hb, hml, hown, hts⟩ (h_Mo_isPerson _ s2 τ0 (a1 - 10) hg) (gk_cwV 1 hts t_w281 rfl rfl rfl (hts _ t_w278) (hts _ t_w279) (hts _ t_w280) (hts _ t_w252) (by decide +kernel) ⟨Nat.le_of_ble_eq_true rfl, Nat.le_of_ble_eq_true rfl⟩) hK hP hD hS (va_recv hK hP (ci := 7) (q0 := 29) rfl rfl) rfl hl.1 rfl (lv_room (Nat.le_of_ble_eq_true rfl)) d_Mo_count_16 ⟨Nat.zero_le _, Nat.zero_le _⟩ ?_
    intro r16 s16 t16 H locs hw hP hD hS
    replace hv := hv r16 s16 t16 hw
    refine lv_if_eq (tgt := 34) hx hb d_Mo_count_19 (by decide) (fun hc => ?_) (fun hc => ?_)
    · replace hv := hv.1 hc
      refine lv_iconst (v := (-1)) hx hb d_Mo_count_34 (by decide) ?_
      exact gk_iret hx hb hr hlocks hK hP hD hS hv d_Mo_count_35
    · replace hv := hv.2 hc
      refine lv_aload_n hx hb d_Mo_count_22 rfl (lv_at hl 0 rfl) ?_
      refine va_get (D := D) (ci := 7) (v := .ref (ad 35)) (C := R_Mo) (T := F_Mo) (N := 24) hx hb hts iw_Mo hown hK hP 29 rfl rfl 7 (by decide) (hts _ t_w289) (fun _ h9 => h9) rfl d_Mo_count_23 ?_
      refine lv_iload_n hx hb d_Mo_count_26 rfl (lv_at hl 1 rfl) ?_
      refine lv_bipush (v := 10) hx hb d_Mo_count_27 (by decide) ?_
      refine lv_isub hx hb d_Mo_count_29 ?_
      obtain ⟨hi, hv⟩ := hv
      refine va_iald hx hb hK hP 35 0 rfl rfl hi d_Mo_count_30 ?_
      refine lv_goto (tgt := 35) hx hb d_Mo_count_31 (by decide) ?_
      exact gk_iret hx hb hr hlocks hK hP hD hS hv d_Mo_count_35
