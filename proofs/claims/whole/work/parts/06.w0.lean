theorem d_PT_isWithin_0 : decode b_PT_isWithin 0 = .ok (.iload_n 0, 1) := by decide +kernel
theorem d_PT_isWithin_1 : decode b_PT_isWithin 1 = .ok (.iload_n 1, 1) := by decide +kernel
theorem d_PT_isWithin_2 : decode b_PT_isWithin 2 = .ok (.if_icmp .lt 12, 3) := by decide +kernel
theorem d_PT_isWithin_5 : decode b_PT_isWithin 5 = .ok (.iload_n 0, 1) := by decide +kernel
theorem d_PT_isWithin_6 : decode b_PT_isWithin 6 = .ok (.iload_n 2, 1) := by decide +kernel
theorem d_PT_isWithin_7 : decode b_PT_isWithin 7 = .ok (.if_icmp .gt 7, 3) := by decide +kernel
theorem d_PT_isWithin_10 : decode b_PT_isWithin 10 = .ok (.iconst 1, 1) := by decide +kernel
theorem d_PT_isWithin_11 : decode b_PT_isWithin 11 = .ok (.goto 4, 3) := by decide +kernel
theorem d_PT_isWithin_14 : decode b_PT_isWithin 14 = .ok (.iconst 0, 1) := by decide +kernel
theorem d_PT_isWithin_15 : decode b_PT_isWithin 15 = .ok (.ireturn, 1) := by decide +kernel
def s_PT_isWithin_5 (σ : MI) (τ : ML) (x0 : Int32) (x2 : Int32) (R : Int32 → MI → ML → Prop) : Prop :=
  (x2 < x0 →
  ((0 = 0 ∨ 0 = 1) ∧ R 0 σ τ)) ∧
  (¬ x2 < x0 →
  ((1 = 0 ∨ 1 = 1) ∧ R 1 σ τ))
def s_PT_isWithin_0 (σ : MI) (τ : ML) (a0 : Int32) (a1 : Int32) (a2 : Int32) (R : Int32 → MI → ML → Prop) : Prop :=
  (a0 < a1 →
  ((0 = 0 ∨ 0 = 1) ∧ R 0 σ τ)) ∧
  (¬ a0 < a1 →
  (s_PT_isWithin_5 σ τ a0 a2 R))
set_option maxHeartbeats 4000000 in
set_option maxRecDepth 100000 in
theorem k_PT_isWithin (l : Launch) (D : va_G) (ad : Nat → Nat) (ci cl : ClassId)
    (pre : MI → ML → Int32 → Int32 → Int32 → Prop) (post : MI → ML → Int32 → Int32 → Int32 → Int32 → MI → ML → Prop)
    (v0 : ∀ (σ0 : MI) (τ0 : ML) (a0 : Int32) (a1 : Int32) (a2 : Int32), pre σ0 τ0 a0 a1 a2 → s_PT_isWithin_0 σ0 τ0 a0 a1 a2 (post σ0 τ0 a0 a1 a2)) :
    ∀ (sz : Nat) (σ0 : MI) (τ0 : ML) (a0 : Int32) (a1 : Int32) (a2 : Int32), pre σ0 τ0 a0 a1 a2 → gMi l D (xw ad ci cl) (xt ci cl) (xa ad) y_PT_isWithin w_PT_isWithin rm_PT_isWithin [.int a0, .int a1, .int a2] sz σ0 τ0 (post σ0 τ0 a0 a1 a2) := by
  intro sz σ0 τ0 a0 a1 a2 hpre
  refine gk_ofWi (cc := b_PT_isWithin) (maxL := 3) (ret := (some .boolean)) (by decide) rfl xa_ok (Nat.le_of_ble_eq_true rfl) ?_
  intro p e s m below meth c ls hx hb hr hlocks hml hown hts hK hP hD hS hl
  have hl : lv_has ls 3 [(0, .int a0), (1, .int a1), (2, .int a2)] := hl
  have hown : s.vm.findClass R_PT = some m.cls := hown
  have hv := v0 σ0 τ0 a0 a1 a2 hpre
  unfold s_PT_isWithin_0 at hv
  have j5 : ∀ (w0 : Int32) (w2 : Int32) (σ1 : MI) (τ1 : ML) (H : Heap) (locs : List Loc) (ls : Array Slot), s_PT_isWithin_5 σ1 τ1 w0 w2 (post σ0 τ0 a0 a1 a2) → va_P D classes ((xw ad ci cl) σ1 τ1) H → va_D (gA (xa ad) s.heap.size) ((xw ad ci cl) σ1 τ1) → va_S (gA (xa ad) s.heap.size) s.heap H locs → lv_has ls 3 [(0, .int w0), (2, .int w2)] → W p l e rm_PT_isWithin s m [.int a0, .int a1, .int a2].toArray below meth c H locs 0 0 (gQi D (xw ad ci cl) (xt ci cl) (xa ad) below [.int a0, .int a1, .int a2] s (post σ0 τ0 a0 a1 a2)) (F0 m 5 ls []) := by
    intro w0 w2 σ1 τ1 H locs ls hv hP hD hS hl
    unfold s_PT_isWithin_5 at hv
    refine lv_iload_n hx hb d_PT_isWithin_5 rfl (lv_at hl 0 rfl) ?_
    refine lv_iload_n hx hb d_PT_isWithin_6 rfl (lv_at hl 1 rfl) ?_
    refine lv_icmp_gt (tgt := 14) hx hb d_PT_isWithin_7 (by decide) (fun hc => ?_) (fun hc => ?_)
    · replace hv := hv.1 hc
      refine lv_iconst (v := 0) hx hb d_PT_isWithin_14 (by decide) ?_
      obtain ⟨hz, hv⟩ := hv
      exact gk_zret hx hb hr hlocks (gk_nz hz) hK hP hD hS hv d_PT_isWithin_15
    · replace hv := hv.2 hc
      refine lv_iconst (v := 1) hx hb d_PT_isWithin_10 (by decide) ?_
      refine lv_goto (tgt := 15) hx hb d_PT_isWithin_11 (by decide) ?_
      obtain ⟨hz, hv⟩ := hv
      exact gk_zret hx hb hr hlocks (gk_nz hz) hK hP hD hS hv d_PT_isWithin_15
  refine lv_iload_n hx hb d_PT_isWithin_0 rfl (lv_at hl 0 rfl) ?_
  refine lv_iload_n hx hb d_PT_isWithin_1 rfl (lv_at hl 1 rfl) ?_
  refine lv_icmp_lt (tgt := 14) hx hb d_PT_isWithin_2 (by decide) (fun hc => ?_) (fun hc => ?_)
  · replace hv := hv.1 hc
    refine lv_iconst (v := 0) hx hb d_PT_isWithin_14 (by decide) ?_
    obtain ⟨hz, hv⟩ := hv
    exact gk_zret hx hb hr hlocks (gk_nz hz) hK hP hD hS hv d_PT_isWithin_15
  · replace hv := hv.2 hc
    exact j5 a0 a2 σ0 τ0 _ _ _ hv hP hD hS (lv_sub hl [0, 2] rfl)
theorem d_PT_isLicence_0 : decode b_PT_isLicence 0 = .ok (.iload_n 0, 1) := by decide +kernel
theorem d_PT_isLicence_1 : decode b_PT_isLicence 1 = .ok (.iconst 1, 1) := by decide +kernel
theorem d_PT_isLicence_2 : decode b_PT_isLicence 2 = .ok (.iconst 5, 1) := by decide +kernel
theorem d_PT_isLicence_3 : decode b_PT_isLicence 3 = .ok (.invokestatic 86, 3) := by decide +kernel
theorem d_PT_isLicence_6 : decode b_PT_isLicence 6 = .ok (.ireturn, 1) := by decide +kernel
def s_PT_isLicence_0 (P_PT_isWithin : MI → ML → Int32 → Int32 → Int32 → Prop) (Q_PT_isWithin : MI → ML → Int32 → Int32 → Int32 → Int32 → MI → ML → Prop) (σ : MI) (τ : ML) (a0 : Int32) (R : Int32 → MI → ML → Prop) : Prop :=
  P_PT_isWithin σ τ a0 1 5 ∧ ∀ (r3 : Int32) (s3 : MI) (t3 : ML), Q_PT_isWithin σ τ a0 1 5 r3 s3 t3 → ((r3 = 0 ∨ r3 = 1) ∧ R r3 s3 t3)
set_option maxHeartbeats 4000000 in
set_option maxRecDepth 100000 in
theorem k_PT_isLicence (l : Launch) (D : va_G) (ad : Nat → Nat) (ci cl : ClassId)
    (pre : MI → ML → Int32 → Prop) (post : MI → ML → Int32 → Int32 → MI → ML → Prop) (P_PT_isWithin : MI → ML → Int32 → Int32 → Int32 → Prop) (Q_PT_isWithin : MI → ML → Int32 → Int32 → Int32 → Int32 → MI → ML → Prop)
    (h_PT_isWithin : ∀ (sz : Nat) (σ : MI) (τ : ML) (b0 : Int32) (b1 : Int32) (b2 : Int32), P_PT_isWithin σ τ b0 b1 b2 → gMi l D (xw ad ci cl) (xt ci cl) (xa ad) y_PT_isWithin w_PT_isWithin rm_PT_isWithin [.int b0, .int b1, .int b2] sz σ τ (Q_PT_isWithin σ τ b0 b1 b2))
    (v0 : ∀ (σ0 : MI) (τ0 : ML) (a0 : Int32), pre σ0 τ0 a0 → s_PT_isLicence_0 P_PT_isWithin Q_PT_isWithin σ0 τ0 a0 (post σ0 τ0 a0)) :
    ∀ (sz : Nat) (σ0 : MI) (τ0 : ML) (a0 : Int32), pre σ0 τ0 a0 → gMi l D (xw ad ci cl) (xt ci cl) (xa ad) y_PT_isLicence w_PT_isLicence rm_PT_isLicence [.int a0] sz σ0 τ0 (post σ0 τ0 a0) := by
  intro sz σ0 τ0 a0 hpre
  refine gk_ofWi (cc := b_PT_isLicence) (maxL := 1) (ret := (some .boolean)) (by decide) rfl xa_ok (Nat.le_of_ble_eq_true rfl) ?_
  intro p e s m below meth c ls hx hb hr hlocks hml hown hts hK hP hD hS hl
  have hl : lv_has ls 1 [(0, .int a0)] := hl
  have hown : s.vm.findClass R_PT = some m.cls := hown
  have hv := v0 σ0 τ0 a0 hpre
  unfold s_PT_isLicence_0 at hv
  refine lv_iload_n hx hb d_PT_isLicence_0 rfl (lv_at hl 0 rfl) ?_
  refine lv_iconst (v := 1) hx hb d_PT_isLicence_1 (by decide) ?_
  refine lv_iconst (v := 5) hx hb d_PT_isLicence_2 (by decide) ?_
  obtain ⟨hg, hv⟩ := hv
  refine gk_callSi (As := [.int a0, .int 1, .int 5]) (rest := []) (hP := hP) ⟨hx, hb, hml, hown, hts⟩ (h_PT_isWithin _ σ0 τ0 a0 1 5 hg) (gk_cwS 3 hts t_w3 rfl rfl rfl (hts _ t_w0) (hts _ t_w1) (hts _ t_w2) (by decide +kernel) ⟨Nat.le_of_ble_eq_true rfl, Nat.le_of_ble_eq_true rfl⟩) hK hP hD hS rfl hl.1 rfl (lv_room (Nat.le_of_ble_eq_true rfl)) d_PT_isLicence_3 ⟨Nat.zero_le _, Nat.zero_le _⟩ ?_
  intro r3 s3 t3 H locs hw hP hD hS
  replace hv := hv r3 s3 t3 hw
  obtain ⟨hz, hv⟩ := hv
  exact gk_zret hx hb hr hlocks (gk_nz hz) hK hP hD hS hv d_PT_isLicence_6
theorem d_Jobs_putInOrder_0 : decode b_Jobs_putInOrder 0 = .ok (.iconst 0, 1) := by decide +kernel
theorem d_Jobs_putInOrder_1 : decode b_Jobs_putInOrder 1 = .ok (.istore_n 1, 1) := by decide +kernel
theorem d_Jobs_putInOrder_2 : decode b_Jobs_putInOrder 2 = .ok (.iload_n 1, 1) := by decide +kernel
theorem d_Jobs_putInOrder_3 : decode b_Jobs_putInOrder 3 = .ok (.aload_n 0, 1) := by decide +kernel
theorem d_Jobs_putInOrder_4 : decode b_Jobs_putInOrder 4 = .ok (.getfield 9, 3) := by decide +kernel
theorem d_Jobs_putInOrder_7 : decode b_Jobs_putInOrder 7 = .ok (.if_icmp .ge 64, 3) := by decide +kernel
theorem d_Jobs_putInOrder_10 : decode b_Jobs_putInOrder 10 = .ok (.iload_n 1, 1) := by decide +kernel
theorem d_Jobs_putInOrder_11 : decode b_Jobs_putInOrder 11 = .ok (.istore_n 2, 1) := by decide +kernel
theorem d_Jobs_putInOrder_12 : decode b_Jobs_putInOrder 12 = .ok (.iload_n 2, 1) := by decide +kernel
theorem d_Jobs_putInOrder_13 : decode b_Jobs_putInOrder 13 = .ok (.ifCond .le 45, 3) := by decide +kernel
theorem d_Jobs_putInOrder_16 : decode b_Jobs_putInOrder 16 = .ok (.aload_n 0, 1) := by decide +kernel
theorem d_Jobs_putInOrder_17 : decode b_Jobs_putInOrder 17 = .ok (.getfield 22, 3) := by decide +kernel
theorem d_Jobs_putInOrder_20 : decode b_Jobs_putInOrder 20 = .ok (.aload_n 0, 1) := by decide +kernel
theorem d_Jobs_putInOrder_21 : decode b_Jobs_putInOrder 21 = .ok (.getfield 31, 3) := by decide +kernel
theorem d_Jobs_putInOrder_24 : decode b_Jobs_putInOrder 24 = .ok (.iload_n 2, 1) := by decide +kernel
theorem d_Jobs_putInOrder_25 : decode b_Jobs_putInOrder 25 = .ok (.iconst 1, 1) := by decide +kernel
theorem d_Jobs_putInOrder_26 : decode b_Jobs_putInOrder 26 = .ok (.isub, 1) := by decide +kernel
theorem d_Jobs_putInOrder_27 : decode b_Jobs_putInOrder 27 = .ok (.iaload, 1) := by decide +kernel
theorem d_Jobs_putInOrder_28 : decode b_Jobs_putInOrder 28 = .ok (.iaload, 1) := by decide +kernel
theorem d_Jobs_putInOrder_29 : decode b_Jobs_putInOrder 29 = .ok (.aload_n 0, 1) := by decide +kernel
theorem d_Jobs_putInOrder_30 : decode b_Jobs_putInOrder 30 = .ok (.getfield 22, 3) := by decide +kernel
theorem d_Jobs_putInOrder_33 : decode b_Jobs_putInOrder 33 = .ok (.iload_n 1, 1) := by decide +kernel
theorem d_Jobs_putInOrder_34 : decode b_Jobs_putInOrder 34 = .ok (.iaload, 1) := by decide +kernel
theorem d_Jobs_putInOrder_35 : decode b_Jobs_putInOrder 35 = .ok (.if_icmp .le 23, 3) := by decide +kernel
theorem d_Jobs_putInOrder_38 : decode b_Jobs_putInOrder 38 = .ok (.aload_n 0, 1) := by decide +kernel
theorem d_Jobs_putInOrder_39 : decode b_Jobs_putInOrder 39 = .ok (.getfield 31, 3) := by decide +kernel
theorem d_Jobs_putInOrder_42 : decode b_Jobs_putInOrder 42 = .ok (.iload_n 2, 1) := by decide +kernel
theorem d_Jobs_putInOrder_43 : decode b_Jobs_putInOrder 43 = .ok (.aload_n 0, 1) := by decide +kernel
theorem d_Jobs_putInOrder_44 : decode b_Jobs_putInOrder 44 = .ok (.getfield 31, 3) := by decide +kernel
theorem d_Jobs_putInOrder_47 : decode b_Jobs_putInOrder 47 = .ok (.iload_n 2, 1) := by decide +kernel
theorem d_Jobs_putInOrder_48 : decode b_Jobs_putInOrder 48 = .ok (.iconst 1, 1) := by decide +kernel
theorem d_Jobs_putInOrder_49 : decode b_Jobs_putInOrder 49 = .ok (.isub, 1) := by decide +kernel
theorem d_Jobs_putInOrder_50 : decode b_Jobs_putInOrder 50 = .ok (.iaload, 1) := by decide +kernel
theorem d_Jobs_putInOrder_51 : decode b_Jobs_putInOrder 51 = .ok (.iastore, 1) := by decide +kernel
theorem d_Jobs_putInOrder_52 : decode b_Jobs_putInOrder 52 = .ok (.iinc 2 (-1), 3) := by decide +kernel
theorem d_Jobs_putInOrder_55 : decode b_Jobs_putInOrder 55 = .ok (.goto (-43), 3) := by decide +kernel
theorem d_Jobs_putInOrder_58 : decode b_Jobs_putInOrder 58 = .ok (.aload_n 0, 1) := by decide +kernel
theorem d_Jobs_putInOrder_59 : decode b_Jobs_putInOrder 59 = .ok (.getfield 31, 3) := by decide +kernel
theorem d_Jobs_putInOrder_62 : decode b_Jobs_putInOrder 62 = .ok (.iload_n 2, 1) := by decide +kernel
theorem d_Jobs_putInOrder_63 : decode b_Jobs_putInOrder 63 = .ok (.iload_n 1, 1) := by decide +kernel
theorem d_Jobs_putInOrder_64 : decode b_Jobs_putInOrder 64 = .ok (.iastore, 1) := by decide +kernel
theorem d_Jobs_putInOrder_65 : decode b_Jobs_putInOrder 65 = .ok (.iinc 1 1, 3) := by decide +kernel
theorem d_Jobs_putInOrder_68 : decode b_Jobs_putInOrder 68 = .ok (.goto (-66), 3) := by decide +kernel
theorem d_Jobs_putInOrder_71 : decode b_Jobs_putInOrder 71 = .ok (.return_, 1) := by decide +kernel
def s_Jobs_putInOrder_58 (σ : MI) (τ : ML) (x1 : Int32) (x2 : Int32) (K2 : Int32 → MI → ML → Prop) (K12 : Int32 → Int32 → MI → ML → Prop) (R : MI → ML → Prop) : Prop :=
  vp_in x2 7 ∧ (∀ s64 : MI, s64 = st2 σ 14 (Int32.toNatClampNeg x2) x1 → (∀ y65 : Int32, y65 = x1 + 1 → (K2 y65 s64 τ)))
def s_Jobs_putInOrder_0 (σ : MI) (τ : ML) (K2 : Int32 → MI → ML → Prop) (K12 : Int32 → Int32 → MI → ML → Prop) (R : MI → ML → Prop) : Prop :=
  K2 0 σ τ
def s_Jobs_putInOrder_2 (σ : MI) (τ : ML) (x1 : Int32) (K2 : Int32 → MI → ML → Prop) (K12 : Int32 → Int32 → MI → ML → Prop) (R : MI → ML → Prop) : Prop :=
  ((σ 8 0) ≤ x1 →
  (R σ τ)) ∧
  (¬ (σ 8 0) ≤ x1 →
  (K12 x1 x1 σ τ))
def s_Jobs_putInOrder_12 (σ : MI) (τ : ML) (x1 : Int32) (x2 : Int32) (K2 : Int32 → MI → ML → Prop) (K12 : Int32 → Int32 → MI → ML → Prop) (R : MI → ML → Prop) : Prop :=
  (x2 ≤ 0 →
  (s_Jobs_putInOrder_58 σ τ x1 x2 K2 K12 R)) ∧
  (¬ x2 ≤ 0 →
  (vp_in (x2 - 1) 7 ∧ (vp_in (σ 14 (Int32.toNatClampNeg (x2 - 1))) 7 ∧ (vp_in x1 7 ∧ (((σ 11 (Int32.toNatClampNeg (σ 14 (Int32.toNatClampNeg (x2 - 1))))) ≤ (σ 11 (Int32.toNatClampNeg x1)) →
    (s_Jobs_putInOrder_58 σ τ x1 x2 K2 K12 R)) ∧
    (¬ (σ 11 (Int32.toNatClampNeg (σ 14 (Int32.toNatClampNeg (x2 - 1))))) ≤ (σ 11 (Int32.toNatClampNeg x1)) →
    (vp_in (x2 - 1) 7 ∧ (vp_in x2 7 ∧ (∀ s51 : MI, s51 = st2 σ 14 (Int32.toNatClampNeg x2) (σ 14 (Int32.toNatClampNeg (x2 - 1))) → (∀ y52 : Int32, y52 = x2 + (-1) → (K12 x1 y52 s51 τ)))))))))))
set_option maxHeartbeats 4000000 in
set_option maxRecDepth 100000 in
theorem k_Jobs_putInOrder (l : Launch) (D : va_G) (ad : Nat → Nat) (ci cl : ClassId)
    (pre : MI → ML → Prop) (post : MI → ML → MI → ML → Prop)
    (I2 : MI → ML → Int32 → MI → ML → Prop) (m2 : MI → ML → Int32 → MI → ML → Nat)
    (I12 : MI → ML → Int32 → Int32 → MI → ML → Prop) (m12 : MI → ML → Int32 → Int32 → MI → ML → Nat)
    (v0 : ∀ (σ0 : MI) (τ0 : ML), pre σ0 τ0 → s_Jobs_putInOrder_0 σ0 τ0 (fun z0 σ9 τ9 => I2 σ0 τ0 z0 σ9 τ9) (fun z0 z1 σ9 τ9 => I12 σ0 τ0 z0 z1 σ9 τ9) (post σ0 τ0))
    (v2 : ∀ (σ0 : MI) (τ0 : ML) (x1 : Int32) (σ : MI) (τ : ML), I2 σ0 τ0 x1 σ τ → s_Jobs_putInOrder_2 σ τ x1 (fun z0 σ9 τ9 => I2 σ0 τ0 z0 σ9 τ9 ∧ m2 σ0 τ0 z0 σ9 τ9 < m2 σ0 τ0 x1 σ τ) (fun z0 z1 σ9 τ9 => I12 σ0 τ0 z0 z1 σ9 τ9 ∧ m12 σ0 τ0 z0 z1 σ9 τ9 < m2 σ0 τ0 x1 σ τ) (post σ0 τ0))
    (v12 : ∀ (σ0 : MI) (τ0 : ML) (x1 : Int32) (x2 : Int32) (σ : MI) (τ : ML), I12 σ0 τ0 x1 x2 σ τ → s_Jobs_putInOrder_12 σ τ x1 x2 (fun z0 σ9 τ9 => I2 σ0 τ0 z0 σ9 τ9 ∧ m2 σ0 τ0 z0 σ9 τ9 < m12 σ0 τ0 x1 x2 σ τ) (fun z0 z1 σ9 τ9 => I12 σ0 τ0 z0 z1 σ9 τ9 ∧ m12 σ0 τ0 z0 z1 σ9 τ9 < m12 σ0 τ0 x1 x2 σ τ) (post σ0 τ0)) :
    ∀ (sz : Nat) (σ0 : MI) (τ0 : ML), pre σ0 τ0 → gMv l D (xw ad ci cl) (xt ci cl) (xa ad) y_Jobs_putInOrder w_Jobs_putInOrder rm_Jobs_putInOrder [.ref (ad 8)] sz σ0 τ0 (post σ0 τ0) := by
  intro sz σ0 τ0 hpre
  refine gk_ofWv (cc := b_Jobs_putInOrder) (maxL := 3) (ret := none) (by decide) rfl xa_ok (Nat.le_of_ble_eq_true rfl) ?_
  intro p e s m below meth c ls hx hb hr hlocks hml hown hts hK hP hD hS hl
  have hl : lv_has ls 3 [(0, .ref (ad 8))] := hl
  have hown : s.vm.findClass R_Jobs = some m.cls := hown
  have hL : ∀ n : Nat, (∀ (x1 : Int32) (σ : MI) (τ : ML) (H : Heap) (locs : List Loc) (ls : Array Slot), m2 σ0 τ0 x1 σ τ < n → I2 σ0 τ0 x1 σ τ → va_P D classes ((xw ad ci cl) σ τ) H → va_D (gA (xa ad) s.heap.size) ((xw ad ci cl) σ τ) → va_S (gA (xa ad) s.heap.size) s.heap H locs → lv_has ls 3 [(0, .ref (ad 8)), (1, .int x1)] → W p l e rm_Jobs_putInOrder s m [.ref (ad 8)].toArray below meth c H locs 0 0 (gQv D (xw ad ci cl) (xt ci cl) (xa ad) below [.ref (ad 8)] s (post σ0 τ0)) (F0 m 2 ls [])) ∧
      (∀ (x1 : Int32) (x2 : Int32) (σ : MI) (τ : ML) (H : Heap) (locs : List Loc) (ls : Array Slot), m12 σ0 τ0 x1 x2 σ τ < n → I12 σ0 τ0 x1 x2 σ τ → va_P D classes ((xw ad ci cl) σ τ) H → va_D (gA (xa ad) s.heap.size) ((xw ad ci cl) σ τ) → va_S (gA (xa ad) s.heap.size) s.heap H locs → lv_has ls 3 [(0, .ref (ad 8)), (1, .int x1), (2, .int x2)] → W p l e rm_Jobs_putInOrder s m [.ref (ad 8)].toArray below meth c H locs 0 0 (gQv D (xw ad ci cl) (xt ci cl) (xa ad) below [.ref (ad 8)] s (post σ0 τ0)) (F0 m 12 ls [])) := by
    intro n
    induction n with
    | zero => exact ⟨fun _ _ _ _ _ _ hn => absurd hn (Nat.not_lt_zero _), fun _ _ _ _ _ _ _ hn => absurd hn (Nat.not_lt_zero _)⟩
    | succ n ih =>
      refine ⟨?_, ?_⟩
      · intro x1 σ τ H locs ls hn hI hP hD hS hl
        have hv := v2 σ0 τ0 x1 σ τ hI
        unfold s_Jobs_putInOrder_2 at hv
        refine lv_iload_n hx hb d_Jobs_putInOrder_2 rfl (lv_at hl 1 rfl) ?_
        refine lv_aload_n hx hb d_Jobs_putInOrder_3 rfl (lv_at hl 0 rfl) ?_
        refine va_get (D := D) (ci := 0) (v := .int (σ 8 0)) (C := R_Jobs) (T := F_Jobs) (N := 7) hx hb hts iw_Jobs hown hK hP 8 rfl rfl 0 (by decide) (hts _ t_w36) (fun _ h9 => h9) rfl d_Jobs_putInOrder_4 ?_
        refine lv_icmp_ge (tgt := 71) hx hb d_Jobs_putInOrder_7 (by decide) (fun hc => ?_) (fun hc => ?_)
        · replace hv := hv.1 hc
          exact gk_vret hx hb hr hlocks hK hP hD hS hv d_Jobs_putInOrder_71
        · replace hv := hv.2 hc
          refine lv_iload_n hx hb d_Jobs_putInOrder_10 rfl (lv_at hl 1 rfl) ?_
          refine lv_istore_n (lv' := [(2, .int x1), (0, .ref (ad 8)), (1, .int x1)]) hx hb d_Jobs_putInOrder_11 rfl hl (by decide) rfl (fun ls hl => ?_)
          obtain ⟨hI, hm⟩ := hv
          exact ih.2 x1 x1 σ τ _ _ _ (Nat.lt_of_lt_of_le hm (Nat.le_of_lt_succ hn)) hI hP hD hS (lv_sub hl [1, 2, 0] rfl)
      · intro x1 x2 σ τ H locs ls hn hI hP hD hS hl
        have hv := v12 σ0 τ0 x1 x2 σ τ hI
        unfold s_Jobs_putInOrder_12 at hv
        have j58 : ∀ (w1 : Int32) (w2 : Int32) (σ1 : MI) (τ1 : ML) (H : Heap) (locs : List Loc) (ls : Array Slot), s_Jobs_putInOrder_58 σ1 τ1 w1 w2 (fun z0 σ9 τ9 => I2 σ0 τ0 z0 σ9 τ9 ∧ m2 σ0 τ0 z0 σ9 τ9 < m12 σ0 τ0 x1 x2 σ τ) (fun z0 z1 σ9 τ9 => I12 σ0 τ0 z0 z1 σ9 τ9 ∧ m12 σ0 τ0 z0 z1 σ9 τ9 < m12 σ0 τ0 x1 x2 σ τ) (post σ0 τ0) → va_P D classes ((xw ad ci cl) σ1 τ1) H → va_D (gA (xa ad) s.heap.size) ((xw ad ci cl) σ1 τ1) → va_S (gA (xa ad) s.heap.size) s.heap H locs → lv_has ls 3 [(0, .ref (ad 8)), (1, .int w1), (2, .int w2)] → W p l e rm_Jobs_putInOrder s m [.ref (ad 8)].toArray below meth c H locs 0 0 (gQv D (xw ad ci cl) (xt ci cl) (xa ad) below [.ref (ad 8)] s (post σ0 τ0)) (F0 m 58 ls []) := by
          intro w1 w2 σ1 τ1 H locs ls hv hP hD hS hl
          unfold s_Jobs_putInOrder_58 at hv
          refine lv_aload_n hx hb d_Jobs_putInOrder_58 rfl (lv_at hl 0 rfl) ?_
          refine va_get (D := D) (ci := 0) (v := .ref (ad 14)) (C := R_Jobs) (T := F_Jobs) (N := 7) hx hb hts iw_Jobs hown hK hP 8 rfl rfl 6 (by decide) (hts _ t_w62) (fun _ h9 => h9) rfl d_Jobs_putInOrder_59 ?_
          refine lv_iload_n hx hb d_Jobs_putInOrder_62 rfl (lv_at hl 2 rfl) ?_
          refine lv_iload_n hx hb d_Jobs_putInOrder_63 rfl (lv_at hl 1 rfl) ?_
          obtain ⟨hi, hv⟩ := hv
          refine va_iast hx hb hK hP hD hS 14 0 rfl rfl hi d_Jobs_putInOrder_64 (fun H locs hP hD hS => ?_)
          rw [xa_14] at hP hD
          obtain ⟨s64, es64⟩ : ∃ z : MI, z = st2 σ1 14 (Int32.toNatClampNeg w2) w1 := ⟨_, rfl⟩
          rw [← es64] at hP hD
          replace hv := hv s64 es64
          obtain ⟨y65, ey65⟩ : ∃ z : Int32, z = w1 + 1 := ⟨_, rfl⟩
          replace hv := hv y65 ey65
          refine lv_iinc (v := y65) (lv' := [(1, .int y65), (0, .ref (ad 8)), (2, .int w2)]) hx hb d_Jobs_putInOrder_65 hl (k := 1) rfl (by rw [ey65]; rfl) (by decide) rfl (fun ls hl => ?_)
          refine lv_goto (tgt := 2) hx hb d_Jobs_putInOrder_68 (by decide) ?_
          obtain ⟨hI, hm⟩ := hv
          exact ih.1 y65 s64 τ1 _ _ _ (Nat.lt_of_lt_of_le hm (Nat.le_of_lt_succ hn)) hI hP hD hS (lv_sub hl [1, 0] rfl)
        refine lv_iload_n hx hb d_Jobs_putInOrder_12 rfl (lv_at hl 2 rfl) ?_
        refine lv_if_le (tgt := 58) hx hb d_Jobs_putInOrder_13 (by decide) (fun hc => ?_) (fun hc => ?_)
        · replace hv := hv.1 hc
          exact j58 x1 x2 σ τ _ _ _ hv hP hD hS (lv_sub hl [0, 1, 2] rfl)
        · replace hv := hv.2 hc
          refine lv_aload_n hx hb d_Jobs_putInOrder_16 rfl (lv_at hl 0 rfl) ?_
          refine va_get (D := D) (ci := 0) (v := .ref (ad 11)) (C := R_Jobs) (T := F_Jobs) (N := 7) hx hb hts iw_Jobs hown hK hP 8 rfl rfl 3 (by decide) (hts _ t_w39) (fun _ h9 => h9) rfl d_Jobs_putInOrder_17 ?_
          refine lv_aload_n hx hb d_Jobs_putInOrder_20 rfl (lv_at hl 0 rfl) ?_
          refine va_get (D := D) (ci := 0) (v := .ref (ad 14)) (C := R_Jobs) (T := F_Jobs) (N := 7) hx hb hts iw_Jobs hown hK hP 8 rfl rfl 6 (by decide) (hts _ t_w62) (fun _ h9 => h9) rfl d_Jobs_putInOrder_21 ?_
          refine lv_iload_n hx hb d_Jobs_putInOrder_24 rfl (lv_at hl 2 rfl) ?_
          refine lv_iconst (v := 1) hx hb d_Jobs_putInOrder_25 (by decide) ?_
          refine lv_isub hx hb d_Jobs_putInOrder_26 ?_
          obtain ⟨hi, hv⟩ := hv
          refine va_iald hx hb hK hP 14 0 rfl rfl hi d_Jobs_putInOrder_27 ?_
          obtain ⟨hi, hv⟩ := hv
          refine va_iald hx hb hK hP 11 0 rfl rfl hi d_Jobs_putInOrder_28 ?_
          refine lv_aload_n hx hb d_Jobs_putInOrder_29 rfl (lv_at hl 0 rfl) ?_
          refine va_get (D := D) (ci := 0) (v := .ref (ad 11)) (C := R_Jobs) (T := F_Jobs) (N := 7) hx hb hts iw_Jobs hown hK hP 8 rfl rfl 3 (by decide) (hts _ t_w39) (fun _ h9 => h9) rfl d_Jobs_putInOrder_30 ?_
          refine lv_iload_n hx hb d_Jobs_putInOrder_33 rfl (lv_at hl 1 rfl) ?_
          obtain ⟨hi, hv⟩ := hv
          refine va_iald hx hb hK hP 11 0 rfl rfl hi d_Jobs_putInOrder_34 ?_
          refine lv_icmp_le (tgt := 58) hx hb d_Jobs_putInOrder_35 (by decide) (fun hc => ?_) (fun hc => ?_)
          · replace hv := hv.1 hc
            exact j58 x1 x2 σ τ _ _ _ hv hP hD hS (lv_sub hl [0, 1, 2] rfl)
          · replace hv := hv.2 hc
            refine lv_aload_n hx hb d_Jobs_putInOrder_38 rfl (lv_at hl 0 rfl) ?_
            refine va_get (D := D) (ci := 0) (v := .ref (ad 14)) (C := R_Jobs) (T := F_Jobs) (N := 7) hx hb hts iw_Jobs hown hK hP 8 rfl rfl 6 (by decide) (hts _ t_w62) (fun _ h9 => h9) rfl d_Jobs_putInOrder_39 ?_
            refine lv_iload_n hx hb d_Jobs_putInOrder_42 rfl (lv_at hl 2 rfl) ?_
            refine lv_aload_n hx hb d_Jobs_putInOrder_43 rfl (lv_at hl 0 rfl) ?_
            refine va_get (D := D) (ci := 0) (v := .ref (ad 14)) (C := R_Jobs) (T := F_Jobs) (N := 7) hx hb hts iw_Jobs hown hK hP 8 rfl rfl 6 (by decide) (hts _ t_w62) (fun _ h9 => h9) rfl d_Jobs_putInOrder_44 ?_
            refine lv_iload_n hx hb d_Jobs_putInOrder_47 rfl (lv_at hl 2 rfl) ?_
            refine lv_iconst (v := 1) hx hb d_Jobs_putInOrder_48 (by decide) ?_
            refine lv_isub hx hb d_Jobs_putInOrder_49 ?_
            obtain ⟨hi, hv⟩ := hv
            refine va_iald hx hb hK hP 14 0 rfl rfl hi d_Jobs_putInOrder_50 ?_
            obtain ⟨hi, hv⟩ := hv
            refine va_iast hx hb hK hP hD hS 14 0 rfl rfl hi d_Jobs_putInOrder_51 (fun H locs hP hD hS => ?_)
            rw [xa_14] at hP hD
            obtain ⟨s51, es51⟩ : ∃ z : MI, z = st2 σ 14 (Int32.toNatClampNeg x2) (σ 14 (Int32.toNatClampNeg (x2 - 1))) := ⟨_, rfl⟩
            rw [← es51] at hP hD
            replace hv := hv s51 es51
            obtain ⟨y52, ey52⟩ : ∃ z : Int32, z = x2 + (-1) := ⟨_, rfl⟩
            replace hv := hv y52 ey52
            refine lv_iinc (v := y52) (lv' := [(2, .int y52), (0, .ref (ad 8)), (1, .int x1)]) hx hb d_Jobs_putInOrder_52 hl (k := 2) rfl (by rw [ey52]; rfl) (by decide) rfl (fun ls hl => ?_)
            refine lv_goto (tgt := 12) hx hb d_Jobs_putInOrder_55 (by decide) ?_
            obtain ⟨hI, hm⟩ := hv
            exact ih.2 x1 y52 s51 τ _ _ _ (Nat.lt_of_lt_of_le hm (Nat.le_of_lt_succ hn)) hI hP hD hS (lv_sub hl [1, 2, 0] rfl)
  have hv := v0 σ0 τ0 hpre
  unfold s_Jobs_putInOrder_0 at hv
  refine lv_iconst (v := 0) hx hb d_Jobs_putInOrder_0 (by decide) ?_
  refine lv_istore_n (lv' := [(1, .int 0), (0, .ref (ad 8))]) hx hb d_Jobs_putInOrder_1 rfl hl (by decide) rfl (fun ls hl => ?_)
  exact (hL _).1 0 σ0 τ0 _ _ _ (Nat.lt_succ_self _) hv hP hD hS (lv_sub hl [1, 0] rfl)
theorem d_Planner_joinOwn_0 : decode b_Planner_joinOwn 0 = .ok (.iload_n 1, 1) := by decide +kernel
theorem d_Planner_joinOwn_1 : decode b_Planner_joinOwn 1 = .ok (.iconst 1, 1) := by decide +kernel
theorem d_Planner_joinOwn_2 : decode b_Planner_joinOwn 2 = .ok (.isub, 1) := by decide +kernel
theorem d_Planner_joinOwn_3 : decode b_Planner_joinOwn 3 = .ok (.istore_n 2, 1) := by decide +kernel
theorem d_Planner_joinOwn_4 : decode b_Planner_joinOwn 4 = .ok (.iload_n 2, 1) := by decide +kernel
theorem d_Planner_joinOwn_5 : decode b_Planner_joinOwn 5 = .ok (.ifCond .le 78, 3) := by decide +kernel
theorem d_Planner_joinOwn_8 : decode b_Planner_joinOwn 8 = .ok (.aload_n 0, 1) := by decide +kernel
theorem d_Planner_joinOwn_9 : decode b_Planner_joinOwn 9 = .ok (.getfield 11, 3) := by decide +kernel
theorem d_Planner_joinOwn_12 : decode b_Planner_joinOwn 12 = .ok (.iload_n 2, 1) := by decide +kernel
theorem d_Planner_joinOwn_13 : decode b_Planner_joinOwn 13 = .ok (.laload, 1) := by decide +kernel
theorem d_Planner_joinOwn_14 : decode b_Planner_joinOwn 14 = .ok (.lstore_n 3, 1) := by decide +kernel
theorem d_Planner_joinOwn_15 : decode b_Planner_joinOwn 15 = .ok (.iload_n 2, 1) := by decide +kernel
theorem d_Planner_joinOwn_16 : decode b_Planner_joinOwn 16 = .ok (.istore 5, 2) := by decide +kernel
theorem d_Planner_joinOwn_18 : decode b_Planner_joinOwn 18 = .ok (.iload 5, 2) := by decide +kernel
theorem d_Planner_joinOwn_20 : decode b_Planner_joinOwn 20 = .ok (.ifCond .le 50, 3) := by decide +kernel
theorem d_Planner_joinOwn_23 : decode b_Planner_joinOwn 23 = .ok (.aload_n 0, 1) := by decide +kernel
theorem d_Planner_joinOwn_24 : decode b_Planner_joinOwn 24 = .ok (.getfield 15, 3) := by decide +kernel
theorem d_Planner_joinOwn_27 : decode b_Planner_joinOwn 27 = .ok (.iload 5, 2) := by decide +kernel
theorem d_Planner_joinOwn_29 : decode b_Planner_joinOwn 29 = .ok (.laload, 1) := by decide +kernel
theorem d_Planner_joinOwn_30 : decode b_Planner_joinOwn 30 = .ok (.ldc2_w 97, 3) := by decide +kernel
theorem d_Planner_joinOwn_33 : decode b_Planner_joinOwn 33 = .ok (.lcmp, 1) := by decide +kernel
theorem d_Planner_joinOwn_34 : decode b_Planner_joinOwn 34 = .ok (.ifCond .eq 25, 3) := by decide +kernel
theorem d_Planner_joinOwn_37 : decode b_Planner_joinOwn 37 = .ok (.lload_n 3, 1) := by decide +kernel
theorem d_Planner_joinOwn_38 : decode b_Planner_joinOwn 38 = .ok (.aload_n 0, 1) := by decide +kernel
theorem d_Planner_joinOwn_39 : decode b_Planner_joinOwn 39 = .ok (.getfield 15, 3) := by decide +kernel
theorem d_Planner_joinOwn_42 : decode b_Planner_joinOwn 42 = .ok (.iload 5, 2) := by decide +kernel
theorem d_Planner_joinOwn_44 : decode b_Planner_joinOwn 44 = .ok (.laload, 1) := by decide +kernel
theorem d_Planner_joinOwn_45 : decode b_Planner_joinOwn 45 = .ok (.aload_n 0, 1) := by decide +kernel
theorem d_Planner_joinOwn_46 : decode b_Planner_joinOwn 46 = .ok (.getfield 11, 3) := by decide +kernel
theorem d_Planner_joinOwn_49 : decode b_Planner_joinOwn 49 = .ok (.iload_n 2, 1) := by decide +kernel
theorem d_Planner_joinOwn_50 : decode b_Planner_joinOwn 50 = .ok (.iload 5, 2) := by decide +kernel
theorem d_Planner_joinOwn_52 : decode b_Planner_joinOwn 52 = .ok (.ixor, 1) := by decide +kernel
theorem d_Planner_joinOwn_53 : decode b_Planner_joinOwn 53 = .ok (.laload, 1) := by decide +kernel
theorem d_Planner_joinOwn_54 : decode b_Planner_joinOwn 54 = .ok (.ladd, 1) := by decide +kernel
theorem d_Planner_joinOwn_55 : decode b_Planner_joinOwn 55 = .ok (.invokestatic 99, 3) := by decide +kernel
theorem d_Planner_joinOwn_58 : decode b_Planner_joinOwn 58 = .ok (.lstore_n 3, 1) := by decide +kernel
theorem d_Planner_joinOwn_59 : decode b_Planner_joinOwn 59 = .ok (.iload 5, 2) := by decide +kernel
theorem d_Planner_joinOwn_61 : decode b_Planner_joinOwn 61 = .ok (.iconst 1, 1) := by decide +kernel
theorem d_Planner_joinOwn_62 : decode b_Planner_joinOwn 62 = .ok (.isub, 1) := by decide +kernel
theorem d_Planner_joinOwn_63 : decode b_Planner_joinOwn 63 = .ok (.iload_n 2, 1) := by decide +kernel
theorem d_Planner_joinOwn_64 : decode b_Planner_joinOwn 64 = .ok (.iand, 1) := by decide +kernel
theorem d_Planner_joinOwn_65 : decode b_Planner_joinOwn 65 = .ok (.istore 5, 2) := by decide +kernel
theorem d_Planner_joinOwn_67 : decode b_Planner_joinOwn 67 = .ok (.goto (-49), 3) := by decide +kernel
theorem d_Planner_joinOwn_70 : decode b_Planner_joinOwn 70 = .ok (.aload_n 0, 1) := by decide +kernel
theorem d_Planner_joinOwn_71 : decode b_Planner_joinOwn 71 = .ok (.getfield 11, 3) := by decide +kernel
theorem d_Planner_joinOwn_74 : decode b_Planner_joinOwn 74 = .ok (.iload_n 2, 1) := by decide +kernel
theorem d_Planner_joinOwn_75 : decode b_Planner_joinOwn 75 = .ok (.lload_n 3, 1) := by decide +kernel
theorem d_Planner_joinOwn_76 : decode b_Planner_joinOwn 76 = .ok (.lastore, 1) := by decide +kernel
theorem d_Planner_joinOwn_77 : decode b_Planner_joinOwn 77 = .ok (.iinc 2 (-1), 3) := by decide +kernel
theorem d_Planner_joinOwn_80 : decode b_Planner_joinOwn 80 = .ok (.goto (-76), 3) := by decide +kernel
theorem d_Planner_joinOwn_83 : decode b_Planner_joinOwn 83 = .ok (.return_, 1) := by decide +kernel
def s_Planner_joinOwn_59 (σ : MI) (τ : ML) (x2 : Int32) (x3 : Int64) (x5 : Int32) (K4 : Int32 → MI → ML → Prop) (K18 : Int32 → Int64 → Int32 → MI → ML → Prop) (R : MI → ML → Prop) : Prop :=
  ∀ y65 : Int32, y65 = (x5 - 1) &&& x2 → (K18 x2 x3 y65 σ τ)
def s_Planner_joinOwn_0 (σ : MI) (τ : ML) (a1 : Int32) (K4 : Int32 → MI → ML → Prop) (K18 : Int32 → Int64 → Int32 → MI → ML → Prop) (R : MI → ML → Prop) : Prop :=
  ∀ y3 : Int32, y3 = a1 - 1 → (K4 y3 σ τ)
def s_Planner_joinOwn_4 (σ : MI) (τ : ML) (x2 : Int32) (K4 : Int32 → MI → ML → Prop) (K18 : Int32 → Int64 → Int32 → MI → ML → Prop) (R : MI → ML → Prop) : Prop :=
  (x2 ≤ 0 →
  (R σ τ)) ∧
  (¬ x2 ≤ 0 →
  (vp_in x2 128 ∧ (∀ y14 : Int64, y14 = τ 20 (Int32.toNatClampNeg x2) → (K18 x2 y14 x2 σ τ))))
def s_Planner_joinOwn_18 (σ : MI) (τ : ML) (x2 : Int32) (x3 : Int64) (x5 : Int32) (K4 : Int32 → MI → ML → Prop) (K18 : Int32 → Int64 → Int32 → MI → ML → Prop) (R : MI → ML → Prop) : Prop :=
  (x5 ≤ 0 →
  (vp_in x2 128 ∧ (∀ t76 : ML, t76 = sl2 τ 20 (Int32.toNatClampNeg x2) x3 → (∀ y77 : Int32, y77 = x2 + (-1) → (K4 y77 σ t76))))) ∧
  (¬ x5 ≤ 0 →
  (vp_in x5 128 ∧ (((lg_cmp (τ 21 (Int32.toNatClampNeg x5)) ((-1))) = 0 →
    (s_Planner_joinOwn_59 σ τ x2 x3 x5 K4 K18 R)) ∧
    (¬ (lg_cmp (τ 21 (Int32.toNatClampNeg x5)) ((-1))) = 0 →
    (vp_in x5 128 ∧ (vp_in (x2 ^^^ x5) 128 ∧ (∀ y58 : Int64, y58 = if ((τ 21 (Int32.toNatClampNeg x5)) + (τ 20 (Int32.toNatClampNeg (x2 ^^^ x5)))) < x3 then ((τ 21 (Int32.toNatClampNeg x5)) + (τ 20 (Int32.toNatClampNeg (x2 ^^^ x5)))) else x3 → (s_Planner_joinOwn_59 σ τ x2 y58 x5 K4 K18 R))))))))
set_option maxHeartbeats 4000000 in
set_option maxRecDepth 100000 in
theorem k_Planner_joinOwn (l : Launch) (D : va_G) (ad : Nat → Nat) (ci cl : ClassId)
    (pre : MI → ML → Int32 → Prop) (post : MI → ML → Int32 → MI → ML → Prop)
    (I4 : MI → ML → Int32 → Int32 → MI → ML → Prop) (m4 : MI → ML → Int32 → Int32 → MI → ML → Nat)
    (I18 : MI → ML → Int32 → Int32 → Int64 → Int32 → MI → ML → Prop) (m18 : MI → ML → Int32 → Int32 → Int64 → Int32 → MI → ML → Nat)
    (v0 : ∀ (σ0 : MI) (τ0 : ML) (a1 : Int32), pre σ0 τ0 a1 → s_Planner_joinOwn_0 σ0 τ0 a1 (fun z0 σ9 τ9 => I4 σ0 τ0 a1 z0 σ9 τ9) (fun z0 z1 z2 σ9 τ9 => I18 σ0 τ0 a1 z0 z1 z2 σ9 τ9) (post σ0 τ0 a1))
    (v4 : ∀ (σ0 : MI) (τ0 : ML) (a1 : Int32) (x2 : Int32) (σ : MI) (τ : ML), I4 σ0 τ0 a1 x2 σ τ → s_Planner_joinOwn_4 σ τ x2 (fun z0 σ9 τ9 => I4 σ0 τ0 a1 z0 σ9 τ9 ∧ m4 σ0 τ0 a1 z0 σ9 τ9 < m4 σ0 τ0 a1 x2 σ τ) (fun z0 z1 z2 σ9 τ9 => I18 σ0 τ0 a1 z0 z1 z2 σ9 τ9 ∧ m18 σ0 τ0 a1 z0 z1 z2 σ9 τ9 < m4 σ0 τ0 a1 x2 σ τ) (post σ0 τ0 a1))
    (v18 : ∀ (σ0 : MI) (τ0 : ML) (a1 : Int32) (x2 : Int32) (x3 : Int64) (x5 : Int32) (σ : MI) (τ : ML), I18 σ0 τ0 a1 x2 x3 x5 σ τ → s_Planner_joinOwn_18 σ τ x2 x3 x5 (fun z0 σ9 τ9 => I4 σ0 τ0 a1 z0 σ9 τ9 ∧ m4 σ0 τ0 a1 z0 σ9 τ9 < m18 σ0 τ0 a1 x2 x3 x5 σ τ) (fun z0 z1 z2 σ9 τ9 => I18 σ0 τ0 a1 z0 z1 z2 σ9 τ9 ∧ m18 σ0 τ0 a1 z0 z1 z2 σ9 τ9 < m18 σ0 τ0 a1 x2 x3 x5 σ τ) (post σ0 τ0 a1)) :
    ∀ (sz : Nat) (σ0 : MI) (τ0 : ML) (a1 : Int32), pre σ0 τ0 a1 → gMv l D (xw ad ci cl) (xt ci cl) (xa ad) y_Planner_joinOwn w_Planner_joinOwn rm_Planner_joinOwn [.ref (ad 19), .int a1] sz σ0 τ0 (post σ0 τ0 a1) := by
  intro sz σ0 τ0 a1 hpre
  refine gk_ofWv (cc := b_Planner_joinOwn) (maxL := 6) (ret := none) (by decide) rfl xa_ok (Nat.le_of_ble_eq_true rfl) ?_
  intro p e s m below meth c ls hx hb hr hlocks hml hown hts hK hP hD hS hl
  have hl : lv_has ls 6 [(0, .ref (ad 19)), (1, .int a1)] := hl
  have hown : s.vm.findClass R_Planner = some m.cls := hown
  have hL : ∀ n : Nat, (∀ (x2 : Int32) (σ : MI) (τ : ML) (H : Heap) (locs : List Loc) (ls : Array Slot), m4 σ0 τ0 a1 x2 σ τ < n → I4 σ0 τ0 a1 x2 σ τ → va_P D classes ((xw ad ci cl) σ τ) H → va_D (gA (xa ad) s.heap.size) ((xw ad ci cl) σ τ) → va_S (gA (xa ad) s.heap.size) s.heap H locs → lv_has ls 6 [(0, .ref (ad 19)), (2, .int x2)] → W p l e rm_Planner_joinOwn s m [.ref (ad 19), .int a1].toArray below meth c H locs 0 0 (gQv D (xw ad ci cl) (xt ci cl) (xa ad) below [.ref (ad 19), .int a1] s (post σ0 τ0 a1)) (F0 m 4 ls [])) ∧
      (∀ (x2 : Int32) (x3 : Int64) (x5 : Int32) (σ : MI) (τ : ML) (H : Heap) (locs : List Loc) (ls : Array Slot), m18 σ0 τ0 a1 x2 x3 x5 σ τ < n → I18 σ0 τ0 a1 x2 x3 x5 σ τ → va_P D classes ((xw ad ci cl) σ τ) H → va_D (gA (xa ad) s.heap.size) ((xw ad ci cl) σ τ) → va_S (gA (xa ad) s.heap.size) s.heap H locs → lv_has ls 6 [(0, .ref (ad 19)), (2, .int x2), (3, .long x3), (5, .int x5)] → W p l e rm_Planner_joinOwn s m [.ref (ad 19), .int a1].toArray below meth c H locs 0 0 (gQv D (xw ad ci cl) (xt ci cl) (xa ad) below [.ref (ad 19), .int a1] s (post σ0 τ0 a1)) (F0 m 18 ls [])) := by
    intro n
    induction n with
    | zero => exact ⟨fun _ _ _ _ _ _ hn => absurd hn (Nat.not_lt_zero _), fun _ _ _ _ _ _ _ _ hn => absurd hn (Nat.not_lt_zero _)⟩
    | succ n ih =>
      refine ⟨?_, ?_⟩
      · intro x2 σ τ H locs ls hn hI hP hD hS hl
        have hv := v4 σ0 τ0 a1 x2 σ τ hI
        unfold s_Planner_joinOwn_4 at hv
        refine lv_iload_n hx hb d_Planner_joinOwn_4 rfl (lv_at hl 1 rfl) ?_
        refine lv_if_le (tgt := 83) hx hb d_Planner_joinOwn_5 (by decide) (fun hc => ?_) (fun hc => ?_)
        · replace hv := hv.1 hc
          exact gk_vret hx hb hr hlocks hK hP hD hS hv d_Planner_joinOwn_83
        · replace hv := hv.2 hc
          refine lv_aload_n hx hb d_Planner_joinOwn_8 rfl (lv_at hl 0 rfl) ?_
          refine va_get (D := D) (ci := 3) (v := .ref (ad 20)) (C := R_Planner) (T := F_Planner) (N := 2) hx hb hts iw_Planner hown hK hP 19 rfl rfl 0 (by decide) (hts _ t_w78) (fun _ h9 => h9) rfl d_Planner_joinOwn_9 ?_
          refine lv_iload_n hx hb d_Planner_joinOwn_12 rfl (lv_at hl 1 rfl) ?_
          obtain ⟨hi, hv⟩ := hv
          refine va_lald hx hb hK hP 20 1 rfl rfl hi d_Planner_joinOwn_13 ?_
          refine lv_topl (fun y14 ey14 => ?_)
          replace hv := hv y14 ey14
          refine lv_lstore_n (lv' := [(3, .long y14), (0, .ref (ad 19)), (2, .int x2)]) hx hb d_Planner_joinOwn_14 rfl hl (by decide) rfl (fun ls hl => ?_)
          refine lv_iload_n hx hb d_Planner_joinOwn_15 rfl (lv_at hl 2 rfl) ?_
          refine lv_istore (lv' := [(5, .int x2), (3, .long y14), (0, .ref (ad 19)), (2, .int x2)]) hx hb d_Planner_joinOwn_16 hl (by decide) rfl (fun ls hl => ?_)
          obtain ⟨hI, hm⟩ := hv
          exact ih.2 x2 y14 x2 σ τ _ _ _ (Nat.lt_of_lt_of_le hm (Nat.le_of_lt_succ hn)) hI hP hD hS (lv_sub hl [2, 3, 1, 0] rfl)
      · intro x2 x3 x5 σ τ H locs ls hn hI hP hD hS hl
        have hv := v18 σ0 τ0 a1 x2 x3 x5 σ τ hI
        unfold s_Planner_joinOwn_18 at hv
        have j59 : ∀ (w2 : Int32) (w3 : Int64) (w5 : Int32) (σ1 : MI) (τ1 : ML) (H : Heap) (locs : List Loc) (ls : Array Slot), s_Planner_joinOwn_59 σ1 τ1 w2 w3 w5 (fun z0 σ9 τ9 => I4 σ0 τ0 a1 z0 σ9 τ9 ∧ m4 σ0 τ0 a1 z0 σ9 τ9 < m18 σ0 τ0 a1 x2 x3 x5 σ τ) (fun z0 z1 z2 σ9 τ9 => I18 σ0 τ0 a1 z0 z1 z2 σ9 τ9 ∧ m18 σ0 τ0 a1 z0 z1 z2 σ9 τ9 < m18 σ0 τ0 a1 x2 x3 x5 σ τ) (post σ0 τ0 a1) → va_P D classes ((xw ad ci cl) σ1 τ1) H → va_D (gA (xa ad) s.heap.size) ((xw ad ci cl) σ1 τ1) → va_S (gA (xa ad) s.heap.size) s.heap H locs → lv_has ls 6 [(0, .ref (ad 19)), (2, .int w2), (3, .long w3), (5, .int w5)] → W p l e rm_Planner_joinOwn s m [.ref (ad 19), .int a1].toArray below meth c H locs 0 0 (gQv D (xw ad ci cl) (xt ci cl) (xa ad) below [.ref (ad 19), .int a1] s (post σ0 τ0 a1)) (F0 m 59 ls []) := by
          intro w2 w3 w5 σ1 τ1 H locs ls hv hP hD hS hl
          unfold s_Planner_joinOwn_59 at hv
          refine lv_iload hx hb d_Planner_joinOwn_59 (lv_at hl 3 rfl) ?_
          refine lv_iconst (v := 1) hx hb d_Planner_joinOwn_61 (by decide) ?_
          refine lv_isub hx hb d_Planner_joinOwn_62 ?_
          refine lv_iload_n hx hb d_Planner_joinOwn_63 rfl (lv_at hl 1 rfl) ?_
          refine lv_iand hx hb d_Planner_joinOwn_64 ?_
          refine lv_topi (fun y65 ey65 => ?_)
          replace hv := hv y65 ey65
          refine lv_istore (lv' := [(5, .int y65), (0, .ref (ad 19)), (2, .int w2), (3, .long w3)]) hx hb d_Planner_joinOwn_65 hl (by decide) rfl (fun ls hl => ?_)
          refine lv_goto (tgt := 18) hx hb d_Planner_joinOwn_67 (by decide) ?_
          obtain ⟨hI, hm⟩ := hv
          exact ih.2 w2 w3 y65 σ1 τ1 _ _ _ (Nat.lt_of_lt_of_le hm (Nat.le_of_lt_succ hn)) hI hP hD hS (lv_sub hl [1, 2, 3, 0] rfl)
        refine lv_iload hx hb d_Planner_joinOwn_18 (lv_at hl 3 rfl) ?_
        refine lv_if_le (tgt := 70) hx hb d_Planner_joinOwn_20 (by decide) (fun hc => ?_) (fun hc => ?_)
        · replace hv := hv.1 hc
          refine lv_aload_n hx hb d_Planner_joinOwn_70 rfl (lv_at hl 0 rfl) ?_
          refine va_get (D := D) (ci := 3) (v := .ref (ad 20)) (C := R_Planner) (T := F_Planner) (N := 2) hx hb hts iw_Planner hown hK hP 19 rfl rfl 0 (by decide) (hts _ t_w78) (fun _ h9 => h9) rfl d_Planner_joinOwn_71 ?_
          refine lv_iload_n hx hb d_Planner_joinOwn_74 rfl (lv_at hl 1 rfl) ?_
          refine lv_lload_n hx hb d_Planner_joinOwn_75 rfl (lv_at hl 2 rfl) ?_
          obtain ⟨hi, hv⟩ := hv
          refine va_last hx hb hK hP hD hS 20 1 rfl rfl hi d_Planner_joinOwn_76 (fun H locs hP hD hS => ?_)
          rw [xa_20] at hP hD
          obtain ⟨t76, et76⟩ : ∃ z : ML, z = sl2 τ 20 (Int32.toNatClampNeg x2) x3 := ⟨_, rfl⟩
          rw [← et76] at hP hD
          replace hv := hv t76 et76
          obtain ⟨y77, ey77⟩ : ∃ z : Int32, z = x2 + (-1) := ⟨_, rfl⟩
          replace hv := hv y77 ey77
          refine lv_iinc (v := y77) (lv' := [(2, .int y77), (0, .ref (ad 19)), (3, .long x3), (5, .int x5)]) hx hb d_Planner_joinOwn_77 hl (k := 1) rfl (by rw [ey77]; rfl) (by decide) rfl (fun ls hl => ?_)
          refine lv_goto (tgt := 4) hx hb d_Planner_joinOwn_80 (by decide) ?_
          obtain ⟨hI, hm⟩ := hv
          exact ih.1 y77 σ t76 _ _ _ (Nat.lt_of_lt_of_le hm (Nat.le_of_lt_succ hn)) hI hP hD hS (lv_sub hl [1, 0] rfl)
        · replace hv := hv.2 hc
          refine lv_aload_n hx hb d_Planner_joinOwn_23 rfl (lv_at hl 0 rfl) ?_
          refine va_get (D := D) (ci := 3) (v := .ref (ad 21)) (C := R_Planner) (T := F_Planner) (N := 2) hx hb hts iw_Planner hown hK hP 19 rfl rfl 1 (by decide) (hts _ t_w106) (fun _ h9 => h9) rfl d_Planner_joinOwn_24 ?_
          refine lv_iload hx hb d_Planner_joinOwn_27 (lv_at hl 3 rfl) ?_
          obtain ⟨hi, hv⟩ := hv
          refine va_lald hx hb hK hP 21 1 rfl rfl hi d_Planner_joinOwn_29 ?_
          refine lv_ldc2 (v := (-1)) hx hb hown (hts _ t_w107) d_Planner_joinOwn_30 ?_
          refine W.lcmp hx hb d_Planner_joinOwn_33 ?_
          refine lv_if_eq (tgt := 59) hx hb d_Planner_joinOwn_34 (by decide) (fun hc => ?_) (fun hc => ?_)
          · replace hv := hv.1 hc
            exact j59 x2 x3 x5 σ τ _ _ _ hv hP hD hS (lv_sub hl [0, 1, 2, 3] rfl)
          · replace hv := hv.2 hc
            refine lv_lload_n hx hb d_Planner_joinOwn_37 rfl (lv_at hl 2 rfl) ?_
            refine lv_aload_n hx hb d_Planner_joinOwn_38 rfl (lv_at hl 0 rfl) ?_
            refine va_get (D := D) (ci := 3) (v := .ref (ad 21)) (C := R_Planner) (T := F_Planner) (N := 2) hx hb hts iw_Planner hown hK hP 19 rfl rfl 1 (by decide) (hts _ t_w106) (fun _ h9 => h9) rfl d_Planner_joinOwn_39 ?_
            refine lv_iload hx hb d_Planner_joinOwn_42 (lv_at hl 3 rfl) ?_
            obtain ⟨hi, hv⟩ := hv
            refine va_lald hx hb hK hP 21 1 rfl rfl hi d_Planner_joinOwn_44 ?_
            refine lv_aload_n hx hb d_Planner_joinOwn_45 rfl (lv_at hl 0 rfl) ?_
            refine va_get (D := D) (ci := 3) (v := .ref (ad 20)) (C := R_Planner) (T := F_Planner) (N := 2) hx hb hts iw_Planner hown hK hP 19 rfl rfl 0 (by decide) (hts _ t_w78) (fun _ h9 => h9) rfl d_Planner_joinOwn_46 ?_
            refine lv_iload_n hx hb d_Planner_joinOwn_49 rfl (lv_at hl 1 rfl) ?_
            refine lv_iload hx hb d_Planner_joinOwn_50 (lv_at hl 3 rfl) ?_
            refine lv_ixor hx hb d_Planner_joinOwn_52 ?_
            obtain ⟨hi, hv⟩ := hv
            refine va_lald hx hb hK hP 20 1 rfl rfl hi d_Planner_joinOwn_53 ?_
            refine lv_ladd hx hb d_Planner_joinOwn_54 ?_
            refine va_mmin_long hx hb (hml.trans hl.1.symm) hown (hts _ t_w108) (hts _ t_w109) (hts _ t_w110) (hts _ t_w111) (Nat.le_of_ble_eq_true rfl) (Nat.le_of_ble_eq_true rfl) (Nat.zero_le _) (Nat.zero_le _) d_Planner_joinOwn_55 ?_
            refine lv_topl (fun y58 ey58 => ?_)
            replace hv := hv y58 ey58
            refine lv_lstore_n (lv' := [(3, .long y58), (0, .ref (ad 19)), (2, .int x2), (5, .int x5)]) hx hb d_Planner_joinOwn_58 rfl hl (by decide) rfl (fun ls hl => ?_)
            exact j59 x2 y58 x5 σ τ _ _ _ hv hP hD hS (lv_sub hl [1, 2, 0, 3] rfl)
  have hv := v0 σ0 τ0 a1 hpre
  unfold s_Planner_joinOwn_0 at hv
  refine lv_iload_n hx hb d_Planner_joinOwn_0 rfl (lv_at hl 1 rfl) ?_
  refine lv_iconst (v := 1) hx hb d_Planner_joinOwn_1 (by decide) ?_
  refine lv_isub hx hb d_Planner_joinOwn_2 ?_
  refine lv_topi (fun y3 ey3 => ?_)
  replace hv := hv y3 ey3
  refine lv_istore_n (lv' := [(2, .int y3), (0, .ref (ad 19)), (1, .int a1)]) hx hb d_Planner_joinOwn_3 rfl hl (by decide) rfl (fun ls hl => ?_)
  exact (hL _).1 y3 σ0 τ0 _ _ _ (Nat.lt_succ_self _) hv hP hD hS (lv_sub hl [1, 0] rfl)
theorem d_People_add_0 : decode b_People_add 0 = .ok (.aload_n 0, 1) := by decide +kernel
theorem d_People_add_1 : decode b_People_add 1 = .ok (.getfield 9, 3) := by decide +kernel
theorem d_People_add_4 : decode b_People_add 4 = .ok (.istore 5, 2) := by decide +kernel
theorem d_People_add_6 : decode b_People_add 6 = .ok (.aload_n 0, 1) := by decide +kernel
theorem d_People_add_7 : decode b_People_add 7 = .ok (.getfield 15, 3) := by decide +kernel
theorem d_People_add_10 : decode b_People_add 10 = .ok (.iload 5, 2) := by decide +kernel
theorem d_People_add_12 : decode b_People_add 12 = .ok (.iload_n 1, 1) := by decide +kernel
theorem d_People_add_13 : decode b_People_add 13 = .ok (.iastore, 1) := by decide +kernel
theorem d_People_add_14 : decode b_People_add 14 = .ok (.aload_n 0, 1) := by decide +kernel
theorem d_People_add_15 : decode b_People_add 15 = .ok (.getfield 19, 3) := by decide +kernel
theorem d_People_add_18 : decode b_People_add 18 = .ok (.iload 5, 2) := by decide +kernel
theorem d_People_add_20 : decode b_People_add 20 = .ok (.iload_n 2, 1) := by decide +kernel
theorem d_People_add_21 : decode b_People_add 21 = .ok (.iastore, 1) := by decide +kernel
theorem d_People_add_22 : decode b_People_add 22 = .ok (.aload_n 0, 1) := by decide +kernel
theorem d_People_add_23 : decode b_People_add 23 = .ok (.getfield 22, 3) := by decide +kernel
theorem d_People_add_26 : decode b_People_add 26 = .ok (.iload 5, 2) := by decide +kernel
theorem d_People_add_28 : decode b_People_add 28 = .ok (.iload_n 3, 1) := by decide +kernel
theorem d_People_add_29 : decode b_People_add 29 = .ok (.iastore, 1) := by decide +kernel
theorem d_People_add_30 : decode b_People_add 30 = .ok (.aload_n 0, 1) := by decide +kernel
theorem d_People_add_31 : decode b_People_add 31 = .ok (.getfield 25, 3) := by decide +kernel
theorem d_People_add_34 : decode b_People_add 34 = .ok (.iload 5, 2) := by decide +kernel
theorem d_People_add_36 : decode b_People_add 36 = .ok (.iload 4, 2) := by decide +kernel
theorem d_People_add_38 : decode b_People_add 38 = .ok (.iastore, 1) := by decide +kernel
theorem d_People_add_39 : decode b_People_add 39 = .ok (.aload_n 0, 1) := by decide +kernel
theorem d_People_add_40 : decode b_People_add 40 = .ok (.dup, 1) := by decide +kernel
theorem d_People_add_41 : decode b_People_add 41 = .ok (.getfield 9, 3) := by decide +kernel
theorem d_People_add_44 : decode b_People_add 44 = .ok (.iconst 1, 1) := by decide +kernel
theorem d_People_add_45 : decode b_People_add 45 = .ok (.iadd, 1) := by decide +kernel
theorem d_People_add_46 : decode b_People_add 46 = .ok (.putfield 9, 3) := by decide +kernel
theorem d_People_add_49 : decode b_People_add 49 = .ok (.iload 5, 2) := by decide +kernel
theorem d_People_add_51 : decode b_People_add 51 = .ok (.ireturn, 1) := by decide +kernel
def s_People_add_6 (σ : MI) (τ : ML) (x1 : Int32) (x2 : Int32) (x3 : Int32) (x4 : Int32) (x5 : Int32) (R : Int32 → MI → ML → Prop) : Prop :=
  vp_in x5 4 ∧ (∀ s13 : MI, s13 = st2 σ 2 (Int32.toNatClampNeg x5) x1 → (vp_in x5 4 ∧ (∀ s21 : MI, s21 = st2 s13 3 (Int32.toNatClampNeg x5) x2 → (vp_in x5 4 ∧ (∀ s29 : MI, s29 = st2 s21 4 (Int32.toNatClampNeg x5) x3 → (vp_in x5 4 ∧ (∀ s38 : MI, s38 = st2 s29 5 (Int32.toNatClampNeg x5) x4 → (∀ s46 : MI, s46 = st2 s38 1 0 ((s38 1 0) + 1) → (R x5 s46 τ)))))))))
def s_People_add_0 (σ : MI) (τ : ML) (a1 : Int32) (a2 : Int32) (a3 : Int32) (a4 : Int32) (R : Int32 → MI → ML → Prop) : Prop :=
  ∀ y4 : Int32, y4 = σ 1 0 → (s_People_add_6 σ τ a1 a2 a3 a4 y4 R)
set_option maxHeartbeats 4000000 in
set_option maxRecDepth 100000 in
theorem k_People_add (l : Launch) (D : va_G) (ad : Nat → Nat) (ci cl : ClassId)
    (pre : MI → ML → Int32 → Int32 → Int32 → Int32 → Prop) (post : MI → ML → Int32 → Int32 → Int32 → Int32 → Int32 → MI → ML → Prop)
    (v0 : ∀ (σ0 : MI) (τ0 : ML) (a1 : Int32) (a2 : Int32) (a3 : Int32) (a4 : Int32), pre σ0 τ0 a1 a2 a3 a4 → s_People_add_0 σ0 τ0 a1 a2 a3 a4 (post σ0 τ0 a1 a2 a3 a4)) :
    ∀ (sz : Nat) (σ0 : MI) (τ0 : ML) (a1 : Int32) (a2 : Int32) (a3 : Int32) (a4 : Int32), pre σ0 τ0 a1 a2 a3 a4 → gMi l D (xw ad ci cl) (xt ci cl) (xa ad) y_People_add w_People_add rm_People_add [.ref (ad 1), .int a1, .int a2, .int a3, .int a4] sz σ0 τ0 (post σ0 τ0 a1 a2 a3 a4) := by
  intro sz σ0 τ0 a1 a2 a3 a4 hpre
  refine gk_ofWi (cc := b_People_add) (maxL := 6) (ret := (some .int)) (by decide) rfl xa_ok (Nat.le_of_ble_eq_true rfl) ?_
  intro p e s m below meth c ls hx hb hr hlocks hml hown hts hK hP hD hS hl
  have hl : lv_has ls 6 [(0, .ref (ad 1)), (1, .int a1), (2, .int a2), (3, .int a3), (4, .int a4)] := hl
  have hown : s.vm.findClass R_People = some m.cls := hown
  have hv := v0 σ0 τ0 a1 a2 a3 a4 hpre
  unfold s_People_add_0 at hv
  have j6 : ∀ (w1 : Int32) (w2 : Int32) (w3 : Int32) (w4 : Int32) (w5 : Int32) (σ1 : MI) (τ1 : ML) (H : Heap) (locs : List Loc) (ls : Array Slot), s_People_add_6 σ1 τ1 w1 w2 w3 w4 w5 (post σ0 τ0 a1 a2 a3 a4) → va_P D classes ((xw ad ci cl) σ1 τ1) H → va_D (gA (xa ad) s.heap.size) ((xw ad ci cl) σ1 τ1) → va_S (gA (xa ad) s.heap.size) s.heap H locs → lv_has ls 6 [(0, .ref (ad 1)), (1, .int w1), (2, .int w2), (3, .int w3), (4, .int w4), (5, .int w5)] → W p l e rm_People_add s m [.ref (ad 1), .int a1, .int a2, .int a3, .int a4].toArray below meth c H locs 0 0 (gQi D (xw ad ci cl) (xt ci cl) (xa ad) below [.ref (ad 1), .int a1, .int a2, .int a3, .int a4] s (post σ0 τ0 a1 a2 a3 a4)) (F0 m 6 ls []) := by
    intro w1 w2 w3 w4 w5 σ1 τ1 H locs ls hv hP hD hS hl
    unfold s_People_add_6 at hv
    refine lv_aload_n hx hb d_People_add_6 rfl (lv_at hl 0 rfl) ?_
    refine va_get (D := D) (ci := 1) (v := .ref (ad 2)) (C := R_People) (T := F_People) (N := 7) hx hb hts iw_People hown hK hP 1 rfl rfl 1 (by decide) (hts _ t_w5) (fun _ h9 => h9) rfl d_People_add_7 ?_
    refine lv_iload hx hb d_People_add_10 (lv_at hl 5 rfl) ?_
    refine lv_iload_n hx hb d_People_add_12 rfl (lv_at hl 1 rfl) ?_
    obtain ⟨hi, hv⟩ := hv
    refine va_iast hx hb hK hP hD hS 2 0 rfl rfl hi d_People_add_13 (fun H locs hP hD hS => ?_)
    rw [xa_2] at hP hD
    obtain ⟨s13, es13⟩ : ∃ z : MI, z = st2 σ1 2 (Int32.toNatClampNeg w5) w1 := ⟨_, rfl⟩
    rw [← es13] at hP hD
    replace hv := hv s13 es13
    refine lv_aload_n hx hb d_People_add_14 rfl (lv_at hl 0 rfl) ?_
    refine va_get (D := D) (ci := 1) (v := .ref (ad 3)) (C := R_People) (T := F_People) (N := 7) hx hb hts iw_People hown hK hP 1 rfl rfl 2 (by decide) (hts _ t_w6) (fun _ h9 => h9) rfl d_People_add_15 ?_
    refine lv_iload hx hb d_People_add_18 (lv_at hl 5 rfl) ?_
    refine lv_iload_n hx hb d_People_add_20 rfl (lv_at hl 2 rfl) ?_
    obtain ⟨hi, hv⟩ := hv
    refine va_iast hx hb hK hP hD hS 3 0 rfl rfl hi d_People_add_21 (fun H locs hP hD hS => ?_)
    rw [xa_3] at hP hD
    obtain ⟨s21, es21⟩ : ∃ z : MI, z = st2 s13 3 (Int32.toNatClampNeg w5) w2 := ⟨_, rfl⟩
    rw [← es21] at hP hD
    replace hv := hv s21 es21
    refine lv_aload_n hx hb d_People_add_22 rfl (lv_at hl 0 rfl) ?_
    refine va_get (D := D) (ci := 1) (v := .ref (ad 4)) (C := R_People) (T := F_People) (N := 7) hx hb hts iw_People hown hK hP 1 rfl rfl 3 (by decide) (hts _ t_w7) (fun _ h9 => h9) rfl d_People_add_23 ?_
    refine lv_iload hx hb d_People_add_26 (lv_at hl 5 rfl) ?_
    refine lv_iload_n hx hb d_People_add_28 rfl (lv_at hl 3 rfl) ?_
    obtain ⟨hi, hv⟩ := hv
    refine va_iast hx hb hK hP hD hS 4 0 rfl rfl hi d_People_add_29 (fun H locs hP hD hS => ?_)
    rw [xa_4] at hP hD
    obtain ⟨s29, es29⟩ : ∃ z : MI, z = st2 s21 4 (Int32.toNatClampNeg w5) w3 := ⟨_, rfl⟩
    rw [← es29] at hP hD
    replace hv := hv s29 es29
    refine lv_aload_n hx hb d_People_add_30 rfl (lv_at hl 0 rfl) ?_
    refine va_get (D := D) (ci := 1) (v := .ref (ad 5)) (C := R_People) (T := F_People) (N := 7) hx hb hts iw_People hown hK hP 1 rfl rfl 4 (by decide) (hts _ t_w8) (fun _ h9 => h9) rfl d_People_add_31 ?_
    refine lv_iload hx hb d_People_add_34 (lv_at hl 5 rfl) ?_
    refine lv_iload hx hb d_People_add_36 (lv_at hl 4 rfl) ?_
    obtain ⟨hi, hv⟩ := hv
    refine va_iast hx hb hK hP hD hS 5 0 rfl rfl hi d_People_add_38 (fun H locs hP hD hS => ?_)
    rw [xa_5] at hP hD
    obtain ⟨s38, es38⟩ : ∃ z : MI, z = st2 s29 5 (Int32.toNatClampNeg w5) w4 := ⟨_, rfl⟩
    rw [← es38] at hP hD
    replace hv := hv s38 es38
    refine lv_aload_n hx hb d_People_add_39 rfl (lv_at hl 0 rfl) ?_
    refine lv_dup hx hb d_People_add_40 rfl ?_
    refine va_get (D := D) (ci := 1) (v := .int (s38 1 0)) (C := R_People) (T := F_People) (N := 7) hx hb hts iw_People hown hK hP 1 rfl rfl 0 (by decide) (hts _ t_w4) (fun _ h9 => h9) rfl d_People_add_41 ?_
    refine lv_iconst (v := 1) hx hb d_People_add_44 (by decide) ?_
    refine lv_iadd hx hb d_People_add_45 ?_
    refine va_put (D := D) (ci := 1) (v := .int ((s38 1 0) + 1)) (ty := .int) (fs := [.int (s38 1 0), .ref (ad 2), .ref (ad 3), .ref (ad 4), .ref (ad 5), .ref (ad 6), .ref (ad 7)]) (C := R_People) (T := F_People) (N := 7) hx hb hts iw_People ty_People ty_People_ok nn_People hown hK hP hD hS 1 rfl rfl 0 (by decide) (hts _ t_w4) (fun _ h9 => h9) rfl (by decide +kernel) rfl rfl (Nat.le_of_ble_eq_true rfl) d_People_add_46 (fun H locs hP hD hS => ?_)
    rw [xf_1_0] at hP hD
    obtain ⟨s46, es46⟩ : ∃ z : MI, z = st2 s38 1 0 ((s38 1 0) + 1) := ⟨_, rfl⟩
    rw [← es46] at hP hD
    replace hv := hv s46 es46
    refine lv_iload hx hb d_People_add_49 (lv_at hl 5 rfl) ?_
    exact gk_iret hx hb hr hlocks hK hP hD hS hv d_People_add_51
  refine lv_aload_n hx hb d_People_add_0 rfl (lv_at hl 0 rfl) ?_
  refine va_get (D := D) (ci := 1) (v := .int (σ0 1 0)) (C := R_People) (T := F_People) (N := 7) hx hb hts iw_People hown hK hP 1 rfl rfl 0 (by decide) (hts _ t_w4) (fun _ h9 => h9) rfl d_People_add_1 ?_
  refine lv_topi (fun y4 ey4 => ?_)
  replace hv := hv y4 ey4
  refine lv_istore (lv' := [(5, .int y4), (0, .ref (ad 1)), (1, .int a1), (2, .int a2), (3, .int a3), (4, .int a4)]) hx hb d_People_add_4 hl (by decide) rfl (fun ls hl => ?_)
  exact j6 a1 a2 a3 a4 y4 σ0 τ0 _ _ _ hv hP hD hS (lv_sub hl [1, 2, 3, 4, 5, 0] rfl)
theorem d_Plan_keepDoers_0 : decode b_Plan_keepDoers 0 = .ok (.aload_n 0, 1) := by decide +kernel
theorem d_Plan_keepDoers_1 : decode b_Plan_keepDoers 1 = .ok (.getfield 25, 3) := by decide +kernel
theorem d_Plan_keepDoers_4 : decode b_Plan_keepDoers 4 = .ok (.iconst 0, 1) := by decide +kernel
theorem d_Plan_keepDoers_5 : decode b_Plan_keepDoers 5 = .ok (.aload_n 0, 1) := by decide +kernel
theorem d_Plan_keepDoers_6 : decode b_Plan_keepDoers 6 = .ok (.getfield 38, 3) := by decide +kernel
theorem d_Plan_keepDoers_9 : decode b_Plan_keepDoers 9 = .ok (.iconst 0, 1) := by decide +kernel
theorem d_Plan_keepDoers_10 : decode b_Plan_keepDoers 10 = .ok (.bipush 7, 2) := by decide +kernel
theorem d_Plan_keepDoers_12 : decode b_Plan_keepDoers 12 = .ok (.invokestatic 41, 3) := by decide +kernel
theorem d_Plan_keepDoers_15 : decode b_Plan_keepDoers 15 = .ok (.return_, 1) := by decide +kernel
def s_Plan_keepDoers_0 (σ : MI) (τ : ML) (R : MI → ML → Prop) : Prop :=
  ∀ s12 : MI, s12 = st1 σ 27 (va_cpy (σ 23) (σ 27) (Int32.toNatClampNeg 0) (Int32.toNatClampNeg 0) (Int32.toNatClampNeg 7)) → (R s12 τ)
set_option maxHeartbeats 4000000 in
set_option maxRecDepth 100000 in
theorem k_Plan_keepDoers (l : Launch) (D : va_G) (ad : Nat → Nat) (ci cl : ClassId)
    (pre : MI → ML → Prop) (post : MI → ML → MI → ML → Prop)
    (v0 : ∀ (σ0 : MI) (τ0 : ML), pre σ0 τ0 → s_Plan_keepDoers_0 σ0 τ0 (post σ0 τ0)) :
    ∀ (sz : Nat) (σ0 : MI) (τ0 : ML), pre σ0 τ0 → gMv l D (xw ad ci cl) (xt ci cl) (xa ad) y_Plan_keepDoers w_Plan_keepDoers rm_Plan_keepDoers [.ref (ad 22)] sz σ0 τ0 (post σ0 τ0) := by
  intro sz σ0 τ0 hpre
  refine gk_ofWv (cc := b_Plan_keepDoers) (maxL := 1) (ret := none) (by decide) rfl xa_ok (Nat.le_of_ble_eq_true rfl) ?_
  intro p e s m below meth c ls hx hb hr hlocks hml hown hts hK hP hD hS hl
  have hl : lv_has ls 1 [(0, .ref (ad 22))] := hl
  have hown : s.vm.findClass R_Plan = some m.cls := hown
  have hv := v0 σ0 τ0 hpre
  unfold s_Plan_keepDoers_0 at hv
  refine lv_aload_n hx hb d_Plan_keepDoers_0 rfl (lv_at hl 0 rfl) ?_
  refine va_get (D := D) (ci := 2) (v := .ref (ad 23)) (C := R_Plan) (T := F_Plan) (N := 9) hx hb hts iw_Plan hown hK hP 22 rfl rfl 4 (by decide) (hts _ t_w133) (fun _ h9 => h9) rfl d_Plan_keepDoers_1 ?_
  refine lv_iconst (v := 0) hx hb d_Plan_keepDoers_4 (by decide) ?_
  refine lv_aload_n hx hb d_Plan_keepDoers_5 rfl (lv_at hl 0 rfl) ?_
  refine va_get (D := D) (ci := 2) (v := .ref (ad 27)) (C := R_Plan) (T := F_Plan) (N := 9) hx hb hts iw_Plan hown hK hP 22 rfl rfl 8 (by decide) (hts _ t_w216) (fun _ h9 => h9) rfl d_Plan_keepDoers_6 ?_
  refine lv_iconst (v := 0) hx hb d_Plan_keepDoers_9 (by decide) ?_
  refine lv_bipush (v := 7) hx hb d_Plan_keepDoers_10 (by decide) ?_
  refine va_copyi hx hb (hml.trans hl.1.symm) hown (hts _ t_w217) (hts _ t_w218) (hts _ t_w219) (hts _ t_w220) hK hP hD hS 23 27 0 0 rfl rfl rfl rfl rfl (by decide) (by decide) (by decide) (by decide) (by decide) (fun _ _ => rfl) (Nat.le_of_ble_eq_true rfl) (by decide +kernel) d_Plan_keepDoers_12 (fun H locs hP hD hS => ?_)
  rw [xc_27] at hP hD
  obtain ⟨s12, es12⟩ : ∃ z : MI, z = st1 σ0 27 (va_cpy (σ0 23) (σ0 27) (Int32.toNatClampNeg 0) (Int32.toNatClampNeg 0) (Int32.toNatClampNeg 7)) := ⟨_, rfl⟩
  rw [← es12] at hP hD
  replace hv := hv s12 es12
  exact gk_vret hx hb hr hlocks hK hP hD hS hv d_Plan_keepDoers_15
theorem d_PT_count_0 : decode b_PT_count 0 = .ok (.iload_n 1, 1) := by decide +kernel
theorem d_PT_count_1 : decode b_PT_count 1 = .ok (.bipush 10, 2) := by decide +kernel
theorem d_PT_count_3 : decode b_PT_count 3 = .ok (.if_icmp .lt 30, 3) := by decide +kernel
theorem d_PT_count_6 : decode b_PT_count 6 = .ok (.iload_n 1, 1) := by decide +kernel
theorem d_PT_count_7 : decode b_PT_count 7 = .ok (.bipush 10, 2) := by decide +kernel
theorem d_PT_count_9 : decode b_PT_count 9 = .ok (.isub, 1) := by decide +kernel
theorem d_PT_count_10 : decode b_PT_count 10 = .ok (.istore_n 2, 1) := by decide +kernel
theorem d_PT_count_11 : decode b_PT_count 11 = .ok (.aload_n 0, 1) := by decide +kernel
theorem d_PT_count_12 : decode b_PT_count 12 = .ok (.iload_n 2, 1) := by decide +kernel
theorem d_PT_count_13 : decode b_PT_count 13 = .ok (.invokevirtual 115, 3) := by decide +kernel
theorem d_PT_count_16 : decode b_PT_count 16 = .ok (.ifCond .eq 15, 3) := by decide +kernel
theorem d_PT_count_19 : decode b_PT_count 19 = .ok (.aload_n 0, 1) := by decide +kernel
theorem d_PT_count_20 : decode b_PT_count 20 = .ok (.getfield 10, 3) := by decide +kernel
theorem d_PT_count_23 : decode b_PT_count 23 = .ok (.getfield 191, 3) := by decide +kernel
theorem d_PT_count_26 : decode b_PT_count 26 = .ok (.iload_n 2, 1) := by decide +kernel
theorem d_PT_count_27 : decode b_PT_count 27 = .ok (.iaload, 1) := by decide +kernel
theorem d_PT_count_28 : decode b_PT_count 28 = .ok (.goto 4, 3) := by decide +kernel
theorem d_PT_count_31 : decode b_PT_count 31 = .ok (.iconst (-1), 1) := by decide +kernel
theorem d_PT_count_32 : decode b_PT_count 32 = .ok (.ireturn, 1) := by decide +kernel
theorem d_PT_count_33 : decode b_PT_count 33 = .ok (.iload_n 1, 1) := by decide +kernel
theorem d_PT_count_34 : decode b_PT_count 34 = .ok (.tableswitch 122 0 5 #[38, 46, 54, 62, 78, 100], 38) := by decide +kernel
theorem d_PT_count_72 : decode b_PT_count 72 = .ok (.aload_n 0, 1) := by decide +kernel
theorem d_PT_count_73 : decode b_PT_count 73 = .ok (.getfield 10, 3) := by decide +kernel
theorem d_PT_count_76 : decode b_PT_count 76 = .ok (.getfield 69, 3) := by decide +kernel
theorem d_PT_count_79 : decode b_PT_count 79 = .ok (.ireturn, 1) := by decide +kernel
theorem d_PT_count_80 : decode b_PT_count 80 = .ok (.aload_n 0, 1) := by decide +kernel
theorem d_PT_count_81 : decode b_PT_count 81 = .ok (.getfield 26, 3) := by decide +kernel
theorem d_PT_count_84 : decode b_PT_count 84 = .ok (.getfield 92, 3) := by decide +kernel
theorem d_PT_count_87 : decode b_PT_count 87 = .ok (.ireturn, 1) := by decide +kernel
theorem d_PT_count_88 : decode b_PT_count 88 = .ok (.aload_n 0, 1) := by decide +kernel
theorem d_PT_count_89 : decode b_PT_count 89 = .ok (.getfield 19, 3) := by decide +kernel
theorem d_PT_count_92 : decode b_PT_count 92 = .ok (.getfield 102, 3) := by decide +kernel
theorem d_PT_count_95 : decode b_PT_count 95 = .ok (.ireturn, 1) := by decide +kernel
theorem d_PT_count_96 : decode b_PT_count 96 = .ok (.aload_n 0, 1) := by decide +kernel
theorem d_PT_count_97 : decode b_PT_count 97 = .ok (.getfield 47, 3) := by decide +kernel
theorem d_PT_count_100 : decode b_PT_count 100 = .ok (.getfield 78, 3) := by decide +kernel
theorem d_PT_count_103 : decode b_PT_count 103 = .ok (.ifCond .eq 7, 3) := by decide +kernel
theorem d_PT_count_106 : decode b_PT_count 106 = .ok (.iconst 1, 1) := by decide +kernel
theorem d_PT_count_107 : decode b_PT_count 107 = .ok (.goto 4, 3) := by decide +kernel
theorem d_PT_count_110 : decode b_PT_count 110 = .ok (.iconst 0, 1) := by decide +kernel
theorem d_PT_count_111 : decode b_PT_count 111 = .ok (.ireturn, 1) := by decide +kernel
theorem d_PT_count_112 : decode b_PT_count 112 = .ok (.aload_n 0, 1) := by decide +kernel
theorem d_PT_count_113 : decode b_PT_count 113 = .ok (.getfield 47, 3) := by decide +kernel
theorem d_PT_count_116 : decode b_PT_count 116 = .ok (.getfield 78, 3) := by decide +kernel
theorem d_PT_count_119 : decode b_PT_count 119 = .ok (.ifCond .eq 13, 3) := by decide +kernel
theorem d_PT_count_122 : decode b_PT_count 122 = .ok (.aload_n 0, 1) := by decide +kernel
theorem d_PT_count_123 : decode b_PT_count 123 = .ok (.getfield 47, 3) := by decide +kernel
theorem d_PT_count_126 : decode b_PT_count 126 = .ok (.getfield 125, 3) := by decide +kernel
theorem d_PT_count_129 : decode b_PT_count 129 = .ok (.goto 4, 3) := by decide +kernel
theorem d_PT_count_132 : decode b_PT_count 132 = .ok (.iconst (-1), 1) := by decide +kernel
theorem d_PT_count_133 : decode b_PT_count 133 = .ok (.ireturn, 1) := by decide +kernel
theorem d_PT_count_134 : decode b_PT_count 134 = .ok (.aload_n 0, 1) := by decide +kernel
theorem d_PT_count_135 : decode b_PT_count 135 = .ok (.getfield 47, 3) := by decide +kernel
theorem d_PT_count_138 : decode b_PT_count 138 = .ok (.getfield 78, 3) := by decide +kernel
theorem d_PT_count_141 : decode b_PT_count 141 = .ok (.ifCond .eq 13, 3) := by decide +kernel
theorem d_PT_count_144 : decode b_PT_count 144 = .ok (.aload_n 0, 1) := by decide +kernel
theorem d_PT_count_145 : decode b_PT_count 145 = .ok (.getfield 47, 3) := by decide +kernel
theorem d_PT_count_148 : decode b_PT_count 148 = .ok (.getfield 194, 3) := by decide +kernel
theorem d_PT_count_151 : decode b_PT_count 151 = .ok (.goto 4, 3) := by decide +kernel
theorem d_PT_count_154 : decode b_PT_count 154 = .ok (.iconst (-1), 1) := by decide +kernel
theorem d_PT_count_155 : decode b_PT_count 155 = .ok (.ireturn, 1) := by decide +kernel
theorem d_PT_count_156 : decode b_PT_count 156 = .ok (.iconst (-1), 1) := by decide +kernel
theorem d_PT_count_157 : decode b_PT_count 157 = .ok (.ireturn, 1) := by decide +kernel
def s_PT_count_33 (P_PT_isPerson : MI → ML → Int32 → Prop) (Q_PT_isPerson : MI → ML → Int32 → Int32 → MI → ML → Prop) (σ : MI) (τ : ML) (x1 : Int32) (R : Int32 → MI → ML → Prop) : Prop :=
  (x1 = 0 →
  (R (σ 1 0) σ τ)) ∧ (¬ x1 = 0 →
  ((x1 = 1 →
  (R (σ 15 0) σ τ)) ∧ (¬ x1 = 1 →
  ((x1 = 2 →
  (R (σ 8 0) σ τ)) ∧ (¬ x1 = 2 →
  ((x1 = 3 →
  (((σ 22 0) = 0 →
    (R 0 σ τ)) ∧
    (¬ (σ 22 0) = 0 →
    (R 1 σ τ)))) ∧ (¬ x1 = 3 →
  ((x1 = 4 →
  (((σ 22 0) = 0 →
    (R ((-1)) σ τ)) ∧
    (¬ (σ 22 0) = 0 →
    (R (σ 22 2) σ τ)))) ∧ (¬ x1 = 4 →
  ((x1 = 5 →
  (((σ 22 0) = 0 →
    (R ((-1)) σ τ)) ∧
    (¬ (σ 22 0) = 0 →
    (R (σ 22 1) σ τ)))) ∧ (¬ x1 = 5 →
  (R ((-1)) σ τ))))))))))))
def s_PT_count_6 (P_PT_isPerson : MI → ML → Int32 → Prop) (Q_PT_isPerson : MI → ML → Int32 → Int32 → MI → ML → Prop) (σ : MI) (τ : ML) (x1 : Int32) (R : Int32 → MI → ML → Prop) : Prop :=
  ∀ y10 : Int32, y10 = x1 - 10 → (P_PT_isPerson σ τ y10 ∧ ∀ (r13 : Int32) (s13 : MI) (t13 : ML), Q_PT_isPerson σ τ y10 r13 s13 t13 → ((r13 = 0 →
  (R ((-1)) s13 t13)) ∧
  (¬ r13 = 0 →
  (vp_in y10 4 ∧ (R (s13 7 (Int32.toNatClampNeg y10)) s13 t13)))))
def s_PT_count_0 (P_PT_isPerson : MI → ML → Int32 → Prop) (Q_PT_isPerson : MI → ML → Int32 → Int32 → MI → ML → Prop) (σ : MI) (τ : ML) (a1 : Int32) (R : Int32 → MI → ML → Prop) : Prop :=
  (a1 < 10 →
  (s_PT_count_33 P_PT_isPerson Q_PT_isPerson σ τ a1 R)) ∧
  (¬ a1 < 10 →
  (s_PT_count_6 P_PT_isPerson Q_PT_isPerson σ τ a1 R))
set_option maxHeartbeats 4000000 in
set_option maxRecDepth 100000 in
theorem k_PT_count (l : Launch) (D : va_G) (ad : Nat → Nat) (ci cl : ClassId)
    (pre : MI → ML → Int32 → Prop) (post : MI → ML → Int32 → Int32 → MI → ML → Prop) (P_PT_isPerson : MI → ML → Int32 → Prop) (Q_PT_isPerson : MI → ML → Int32 → Int32 → MI → ML → Prop)
    (h_PT_isPerson : ∀ (sz : Nat) (σ : MI) (τ : ML) (b0 : Int32), P_PT_isPerson σ τ b0 → gMi l D (xw ad ci cl) (xt ci cl) (xa ad) y_PT_isPerson w_PT_isPerson rm_PT_isPerson [.ref (ad 0), .int b0] sz σ τ (Q_PT_isPerson σ τ b0))
    (v0 : ∀ (σ0 : MI) (τ0 : ML) (a1 : Int32), pre σ0 τ0 a1 → s_PT_count_0 P_PT_isPerson Q_PT_isPerson σ0 τ0 a1 (post σ0 τ0 a1)) :
    ∀ (sz : Nat) (σ0 : MI) (τ0 : ML) (a1 : Int32), pre σ0 τ0 a1 → gMi l D (xw ad ci cl) (xt ci cl) (xa ad) y_PT_count w_PT_count rm_PT_count [.ref (ad 0), .int a1] sz σ0 τ0 (post σ0 τ0 a1) := by
  intro sz σ0 τ0 a1 hpre
  refine gk_ofWi (cc := b_PT_count) (maxL := 3) (ret := (some .int)) (by decide) rfl xa_ok (Nat.le_of_ble_eq_true rfl) ?_
  intro p e s m below meth c ls hx hb hr hlocks hml hown hts hK hP hD hS hl
  have hl : lv_has ls 3 [(0, .ref (ad 0)), (1, .int a1)] := hl
  have hown : s.vm.findClass R_PT = some m.cls := hown
  have hv := v0 σ0 τ0 a1 hpre
  unfold s_PT_count_0 at hv
  have j33 : ∀ (w1 : Int32) (σ1 : MI) (τ1 : ML) (H : Heap) (locs : List Loc) (ls : Array Slot), s_PT_count_33 P_PT_isPerson Q_PT_isPerson σ1 τ1 w1 (post σ0 τ0 a1) → va_P D classes ((xw ad ci cl) σ1 τ1) H → va_D (gA (xa ad) s.heap.size) ((xw ad ci cl) σ1 τ1) → va_S (gA (xa ad) s.heap.size) s.heap H locs → lv_has ls 3 [(0, .ref (ad 0)), (1, .int w1)] → W p l e rm_PT_count s m [.ref (ad 0), .int a1].toArray below meth c H locs 0 0 (gQi D (xw ad ci cl) (xt ci cl) (xa ad) below [.ref (ad 0), .int a1] s (post σ0 τ0 a1)) (F0 m 33 ls []) := by
    intro w1 σ1 τ1 H locs ls hv hP hD hS hl
    unfold s_PT_count_33 at hv
    refine lv_iload_n hx hb d_PT_count_33 rfl (lv_at hl 1 rfl) ?_
    by_cases hc0 : w1 = 0
    · replace hv := hv.1 hc0
      refine lv_tableIn (off := 38) (tgt := 72) hx hb d_PT_count_34 (by rw [hc0]; decide) (by rw [hc0]; decide) (by rw [hc0]; rfl) (by decide) ?_
      refine lv_aload_n hx hb d_PT_count_72 rfl (lv_at hl 0 rfl) ?_
      refine va_get (D := D) (ci := 6) (v := .ref (ad 1)) (C := R_PT) (T := F_PT) (N := 6) hx hb hts iw_PT hown hK hP 0 rfl rfl 0 (by decide) (hts _ t_w18) (fun _ h9 => h9) rfl d_PT_count_73 ?_
      refine va_get (D := D) (ci := 1) (v := .int (σ1 1 0)) (C := R_People) (T := F_People) (N := 7) hx hb hts iw_People hown hK hP 1 rfl rfl 0 (by decide) (hts _ t_w19) (fun _ h9 => h9) rfl d_PT_count_76 ?_
      exact gk_iret hx hb hr hlocks hK hP hD hS hv d_PT_count_79
    replace hv := hv.2 hc0
    by_cases hc1 : w1 = 1
    · replace hv := hv.1 hc1
      refine lv_tableIn (off := 46) (tgt := 80) hx hb d_PT_count_34 (by rw [hc1]; decide) (by rw [hc1]; decide) (by rw [hc1]; rfl) (by decide) ?_
      refine lv_aload_n hx hb d_PT_count_80 rfl (lv_at hl 0 rfl) ?_
      refine va_get (D := D) (ci := 6) (v := .ref (ad 15)) (C := R_PT) (T := F_PT) (N := 6) hx hb hts iw_PT hown hK hP 0 rfl rfl 2 (by decide) (hts _ t_w29) (fun _ h9 => h9) rfl d_PT_count_81 ?_
      refine va_get (D := D) (ci := 4) (v := .int (σ1 15 0)) (C := R_Tugs) (T := F_Tugs) (N := 2) hx hb hts iw_Tugs hown hK hP 15 rfl rfl 0 (by decide) (hts _ t_w30) (fun _ h9 => h9) rfl d_PT_count_84 ?_
      exact gk_iret hx hb hr hlocks hK hP hD hS hv d_PT_count_87
    replace hv := hv.2 hc1
    by_cases hc2 : w1 = 2
    · replace hv := hv.1 hc2
      refine lv_tableIn (off := 54) (tgt := 88) hx hb d_PT_count_34 (by rw [hc2]; decide) (by rw [hc2]; decide) (by rw [hc2]; rfl) (by decide) ?_
      refine lv_aload_n hx hb d_PT_count_88 rfl (lv_at hl 0 rfl) ?_
      refine va_get (D := D) (ci := 6) (v := .ref (ad 8)) (C := R_PT) (T := F_PT) (N := 6) hx hb hts iw_PT hown hK hP 0 rfl rfl 1 (by decide) (hts _ t_w42) (fun _ h9 => h9) rfl d_PT_count_89 ?_
      refine va_get (D := D) (ci := 0) (v := .int (σ1 8 0)) (C := R_Jobs) (T := F_Jobs) (N := 7) hx hb hts iw_Jobs hown hK hP 8 rfl rfl 0 (by decide) (hts _ t_w43) (fun _ h9 => h9) rfl d_PT_count_92 ?_
      exact gk_iret hx hb hr hlocks hK hP hD hS hv d_PT_count_95
    replace hv := hv.2 hc2
    by_cases hc3 : w1 = 3
    · replace hv := hv.1 hc3
      refine lv_tableIn (off := 62) (tgt := 96) hx hb d_PT_count_34 (by rw [hc3]; decide) (by rw [hc3]; decide) (by rw [hc3]; rfl) (by decide) ?_
      refine lv_aload_n hx hb d_PT_count_96 rfl (lv_at hl 0 rfl) ?_
      refine va_get (D := D) (ci := 6) (v := .ref (ad 22)) (C := R_PT) (T := F_PT) (N := 6) hx hb hts iw_PT hown hK hP 0 rfl rfl 5 (by decide) (hts _ t_w20) (fun _ h9 => h9) rfl d_PT_count_97 ?_
      refine va_get (D := D) (ci := 2) (v := .int (σ1 22 0)) (C := R_Plan) (T := F_Plan) (N := 9) hx hb hts iw_Plan hown hK hP 22 rfl rfl 0 (by decide) (hts _ t_w21) (fun _ h9 => h9) rfl d_PT_count_100 ?_
      refine lv_if_eq (tgt := 110) hx hb d_PT_count_103 (by decide) (fun hc => ?_) (fun hc => ?_)
      · replace hv := hv.1 hc
        refine lv_iconst (v := 0) hx hb d_PT_count_110 (by decide) ?_
        exact gk_iret hx hb hr hlocks hK hP hD hS hv d_PT_count_111
      · replace hv := hv.2 hc
        refine lv_iconst (v := 1) hx hb d_PT_count_106 (by decide) ?_
        refine lv_goto (tgt := 111) hx hb d_PT_count_107 (by decide) ?_
        exact gk_iret hx hb hr hlocks hK hP hD hS hv d_PT_count_111
    replace hv := hv.2 hc3
    by_cases hc4 : w1 = 4
    · replace hv := hv.1 hc4
      refine lv_tableIn (off := 78) (tgt := 112) hx hb d_PT_count_34 (by rw [hc4]; decide) (by rw [hc4]; decide) (by rw [hc4]; rfl) (by decide) ?_
      refine lv_aload_n hx hb d_PT_count_112 rfl (lv_at hl 0 rfl) ?_
      refine va_get (D := D) (ci := 6) (v := .ref (ad 22)) (C := R_PT) (T := F_PT) (N := 6) hx hb hts iw_PT hown hK hP 0 rfl rfl 5 (by decide) (hts _ t_w20) (fun _ h9 => h9) rfl d_PT_count_113 ?_
      refine va_get (D := D) (ci := 2) (v := .int (σ1 22 0)) (C := R_Plan) (T := F_Plan) (N := 9) hx hb hts iw_Plan hown hK hP 22 rfl rfl 0 (by decide) (hts _ t_w21) (fun _ h9 => h9) rfl d_PT_count_116 ?_
      refine lv_if_eq (tgt := 132) hx hb d_PT_count_119 (by decide) (fun hc => ?_) (fun hc => ?_)
      · replace hv := hv.1 hc
        refine lv_iconst (v := (-1)) hx hb d_PT_count_132 (by decide) ?_
        exact gk_iret hx hb hr hlocks hK hP hD hS hv d_PT_count_133
      · replace hv := hv.2 hc
        refine lv_aload_n hx hb d_PT_count_122 rfl (lv_at hl 0 rfl) ?_
        refine va_get (D := D) (ci := 6) (v := .ref (ad 22)) (C := R_PT) (T := F_PT) (N := 6) hx hb hts iw_PT hown hK hP 0 rfl rfl 5 (by decide) (hts _ t_w20) (fun _ h9 => h9) rfl d_PT_count_123 ?_
        refine va_get (D := D) (ci := 2) (v := .int (σ1 22 2)) (C := R_Plan) (T := F_Plan) (N := 9) hx hb hts iw_Plan hown hK hP 22 rfl rfl 2 (by decide) (hts _ t_w198) (fun _ h9 => h9) rfl d_PT_count_126 ?_
        refine lv_goto (tgt := 133) hx hb d_PT_count_129 (by decide) ?_
        exact gk_iret hx hb hr hlocks hK hP hD hS hv d_PT_count_133
    replace hv := hv.2 hc4
    by_cases hc5 : w1 = 5
    · replace hv := hv.1 hc5
      refine lv_tableIn (off := 100) (tgt := 134) hx hb d_PT_count_34 (by rw [hc5]; decide) (by rw [hc5]; decide) (by rw [hc5]; rfl) (by decide) ?_
      refine lv_aload_n hx hb d_PT_count_134 rfl (lv_at hl 0 rfl) ?_
      refine va_get (D := D) (ci := 6) (v := .ref (ad 22)) (C := R_PT) (T := F_PT) (N := 6) hx hb hts iw_PT hown hK hP 0 rfl rfl 5 (by decide) (hts _ t_w20) (fun _ h9 => h9) rfl d_PT_count_135 ?_
      refine va_get (D := D) (ci := 2) (v := .int (σ1 22 0)) (C := R_Plan) (T := F_Plan) (N := 9) hx hb hts iw_Plan hown hK hP 22 rfl rfl 0 (by decide) (hts _ t_w21) (fun _ h9 => h9) rfl d_PT_count_138 ?_
      refine lv_if_eq (tgt := 154) hx hb d_PT_count_141 (by decide) (fun hc => ?_) (fun hc => ?_)
      · replace hv := hv.1 hc
        refine lv_iconst (v := (-1)) hx hb d_PT_count_154 (by decide) ?_
        exact gk_iret hx hb hr hlocks hK hP hD hS hv d_PT_count_155
      · replace hv := hv.2 hc
        refine lv_aload_n hx hb d_PT_count_144 rfl (lv_at hl 0 rfl) ?_
        refine va_get (D := D) (ci := 6) (v := .ref (ad 22)) (C := R_PT) (T := F_PT) (N := 6) hx hb hts iw_PT hown hK hP 0 rfl rfl 5 (by decide) (hts _ t_w20) (fun _ h9 => h9) rfl d_PT_count_145 ?_
        refine va_get (D := D) (ci := 2) (v := .int (σ1 22 1)) (C := R_Plan) (T := F_Plan) (N := 9) hx hb hts iw_Plan hown hK hP 22 rfl rfl 1 (by decide) (hts _ t_w180) (fun _ h9 => h9) rfl d_PT_count_148 ?_
        refine lv_goto (tgt := 155) hx hb d_PT_count_151 (by decide) ?_
        exact gk_iret hx hb hr hlocks hK hP hD hS hv d_PT_count_155
    replace hv := hv.2 hc5
    refine lv_tableOut (tgt := 156) hx hb d_PT_count_34 (by have h0 := gk_ne hc0 (z := 0) (by decide); have h1 := gk_ne hc1 (z := 1) (by decide); have h2 := gk_ne hc2 (z := 2) (by decide); have h3 := gk_ne hc3 (z := 3) (by decide); have h4 := gk_ne hc4 (z := 4) (by decide); have h5 := gk_ne hc5 (z := 5) (by decide); omega) (by decide) ?_
    refine lv_iconst (v := (-1)) hx hb d_PT_count_156 (by decide) ?_
    exact gk_iret hx hb hr hlocks hK hP hD hS hv d_PT_count_157
  have j6 : ∀ (w1 : Int32) (σ1 : MI) (τ1 : ML) (H : Heap) (locs : List Loc) (ls : Array Slot), s_PT_count_6 P_PT_isPerson Q_PT_isPerson σ1 τ1 w1 (post σ0 τ0 a1) → va_P D classes ((xw ad ci cl) σ1 τ1) H → va_D (gA (xa ad) s.heap.size) ((xw ad ci cl) σ1 τ1) → va_S (gA (xa ad) s.heap.size) s.heap H locs → lv_has ls 3 [(0, .ref (ad 0)), (1, .int w1)] → W p l e rm_PT_count s m [.ref (ad 0), .int a1].toArray below meth c H locs 0 0 (gQi D (xw ad ci cl) (xt ci cl) (xa ad) below [.ref (ad 0), .int a1] s (post σ0 τ0 a1)) (F0 m 6 ls []) := by
    intro w1 σ1 τ1 H locs ls hv hP hD hS hl
    unfold s_PT_count_6 at hv
    refine lv_iload_n hx hb d_PT_count_6 rfl (lv_at hl 1 rfl) ?_
    refine lv_bipush (v := 10) hx hb d_PT_count_7 (by decide) ?_
    refine lv_isub hx hb d_PT_count_9 ?_
    refine lv_topi (fun y10 ey10 => ?_)
    replace hv := hv y10 ey10
    refine lv_istore_n (lv' := [(2, .int y10), (0, .ref (ad 0)), (1, .int w1)]) hx hb d_PT_count_10 rfl hl (by decide) rfl (fun ls hl => ?_)
    refine lv_aload_n hx hb d_PT_count_11 rfl (lv_at hl 1 rfl) ?_
    refine lv_iload_n hx hb d_PT_count_12 rfl (lv_at hl 0 rfl) ?_
    obtain ⟨hg, hv⟩ := hv
    refine gk_callVi (As := [.int y10]) (rest := []) (b := ad 0) ⟨hx, hb, hml, hown, hts⟩ (h_PT_isPerson _ σ1 τ1 y10 hg) (gk_cwV 1 hts t_w60 rfl rfl rfl (hts _ t_w57) (hts _ t_w58) (hts _ t_w59) (hts _ t_w2) (by decide +kernel) ⟨Nat.le_of_ble_eq_true rfl, Nat.le_of_ble_eq_true rfl⟩) hK hP hD hS (va_recv hK hP (ci := 6) (q0 := 0) rfl rfl) rfl hl.1 rfl (lv_room (Nat.le_of_ble_eq_true rfl)) d_PT_count_13 ⟨Nat.zero_le _, Nat.zero_le _⟩ ?_
    intro r13 s13 t13 H locs hw hP hD hS
    replace hv := hv r13 s13 t13 hw
    refine lv_if_eq (tgt := 31) hx hb d_PT_count_16 (by decide) (fun hc => ?_) (fun hc => ?_)
    · replace hv := hv.1 hc
      refine lv_iconst (v := (-1)) hx hb d_PT_count_31 (by decide) ?_
      exact gk_iret hx hb hr hlocks hK hP hD hS hv d_PT_count_32
    · replace hv := hv.2 hc
      refine lv_aload_n hx hb d_PT_count_19 rfl (lv_at hl 1 rfl) ?_
      refine va_get (D := D) (ci := 6) (v := .ref (ad 1)) (C := R_PT) (T := F_PT) (N := 6) hx hb hts iw_PT hown hK hP 0 rfl rfl 0 (by decide) (hts _ t_w18) (fun _ h9 => h9) rfl d_PT_count_20 ?_
      refine va_get (D := D) (ci := 1) (v := .ref (ad 7)) (C := R_People) (T := F_People) (N := 7) hx hb hts iw_People hown hK hP 1 rfl rfl 6 (by decide) (hts _ t_w243) (fun _ h9 => h9) rfl d_PT_count_23 ?_
      refine lv_iload_n hx hb d_PT_count_26 rfl (lv_at hl 0 rfl) ?_
      obtain ⟨hi, hv⟩ := hv
      refine va_iald hx hb hK hP 7 0 rfl rfl hi d_PT_count_27 ?_
      refine lv_goto (tgt := 32) hx hb d_PT_count_28 (by decide) ?_
      exact gk_iret hx hb hr hlocks hK hP hD hS hv d_PT_count_32
  refine lv_iload_n hx hb d_PT_count_0 rfl (lv_at hl 1 rfl) ?_
  refine lv_bipush (v := 10) hx hb d_PT_count_1 (by decide) ?_
  refine lv_icmp_lt (tgt := 33) hx hb d_PT_count_3 (by decide) (fun hc => ?_) (fun hc => ?_)
  · replace hv := hv.1 hc
    exact j33 a1 σ0 τ0 _ _ _ hv hP hD hS (lv_sub hl [0, 1] rfl)
  · replace hv := hv.2 hc
    exact j6 a1 σ0 τ0 _ _ _ hv hP hD hS (lv_sub hl [0, 1] rfl)
theorem d_Mo_next_0 : decode b_Mo_next 0 = .ok (.iconst (-1), 1) := by decide +kernel
theorem d_Mo_next_1 : decode b_Mo_next 1 = .ok (.istore_n 3, 1) := by decide +kernel
theorem d_Mo_next_2 : decode b_Mo_next 2 = .ok (.iconst 0, 1) := by decide +kernel
theorem d_Mo_next_3 : decode b_Mo_next 3 = .ok (.istore 4, 2) := by decide +kernel
theorem d_Mo_next_5 : decode b_Mo_next 5 = .ok (.iload 4, 2) := by decide +kernel
theorem d_Mo_next_7 : decode b_Mo_next 7 = .ok (.aload_n 0, 1) := by decide +kernel
theorem d_Mo_next_8 : decode b_Mo_next 8 = .ok (.getfield 68, 3) := by decide +kernel
theorem d_Mo_next_11 : decode b_Mo_next 11 = .ok (.if_icmp .ge 131, 3) := by decide +kernel
theorem d_Mo_next_14 : decode b_Mo_next 14 = .ok (.iload_n 3, 1) := by decide +kernel
theorem d_Mo_next_15 : decode b_Mo_next 15 = .ok (.ifCond .ge 8, 3) := by decide +kernel
theorem d_Mo_next_18 : decode b_Mo_next 18 = .ok (.iload 4, 2) := by decide +kernel
theorem d_Mo_next_20 : decode b_Mo_next 20 = .ok (.goto 4, 3) := by decide +kernel
theorem d_Mo_next_23 : decode b_Mo_next 23 = .ok (.iload_n 3, 1) := by decide +kernel
theorem d_Mo_next_24 : decode b_Mo_next 24 = .ok (.istore 5, 2) := by decide +kernel
theorem d_Mo_next_26 : decode b_Mo_next 26 = .ok (.iload_n 2, 1) := by decide +kernel
theorem d_Mo_next_27 : decode b_Mo_next 27 = .ok (.ifCond .lt 59, 3) := by decide +kernel
theorem d_Mo_next_30 : decode b_Mo_next 30 = .ok (.aload_n 0, 1) := by decide +kernel
theorem d_Mo_next_31 : decode b_Mo_next 31 = .ok (.getfield 37, 3) := by decide +kernel
theorem d_Mo_next_34 : decode b_Mo_next 34 = .ok (.iload 4, 2) := by decide +kernel
theorem d_Mo_next_36 : decode b_Mo_next 36 = .ok (.iaload, 1) := by decide +kernel
theorem d_Mo_next_37 : decode b_Mo_next 37 = .ok (.aload_n 0, 1) := by decide +kernel
theorem d_Mo_next_38 : decode b_Mo_next 38 = .ok (.getfield 37, 3) := by decide +kernel
theorem d_Mo_next_41 : decode b_Mo_next 41 = .ok (.iload_n 2, 1) := by decide +kernel
theorem d_Mo_next_42 : decode b_Mo_next 42 = .ok (.ifCond .ge 8, 3) := by decide +kernel
theorem d_Mo_next_45 : decode b_Mo_next 45 = .ok (.iload 4, 2) := by decide +kernel
theorem d_Mo_next_47 : decode b_Mo_next 47 = .ok (.goto 4, 3) := by decide +kernel
theorem d_Mo_next_50 : decode b_Mo_next 50 = .ok (.iload_n 2, 1) := by decide +kernel
theorem d_Mo_next_51 : decode b_Mo_next 51 = .ok (.iaload, 1) := by decide +kernel
theorem d_Mo_next_52 : decode b_Mo_next 52 = .ok (.if_icmp .gt 34, 3) := by decide +kernel
theorem d_Mo_next_55 : decode b_Mo_next 55 = .ok (.aload_n 0, 1) := by decide +kernel
theorem d_Mo_next_56 : decode b_Mo_next 56 = .ok (.getfield 37, 3) := by decide +kernel
theorem d_Mo_next_59 : decode b_Mo_next 59 = .ok (.iload 4, 2) := by decide +kernel
theorem d_Mo_next_61 : decode b_Mo_next 61 = .ok (.iaload, 1) := by decide +kernel
theorem d_Mo_next_62 : decode b_Mo_next 62 = .ok (.aload_n 0, 1) := by decide +kernel
theorem d_Mo_next_63 : decode b_Mo_next 63 = .ok (.getfield 37, 3) := by decide +kernel
theorem d_Mo_next_66 : decode b_Mo_next 66 = .ok (.iload_n 2, 1) := by decide +kernel
theorem d_Mo_next_67 : decode b_Mo_next 67 = .ok (.ifCond .ge 8, 3) := by decide +kernel
theorem d_Mo_next_70 : decode b_Mo_next 70 = .ok (.iload 4, 2) := by decide +kernel
theorem d_Mo_next_72 : decode b_Mo_next 72 = .ok (.goto 4, 3) := by decide +kernel
theorem d_Mo_next_75 : decode b_Mo_next 75 = .ok (.iload_n 2, 1) := by decide +kernel
theorem d_Mo_next_76 : decode b_Mo_next 76 = .ok (.iaload, 1) := by decide +kernel
theorem d_Mo_next_77 : decode b_Mo_next 77 = .ok (.if_icmp .ne 13, 3) := by decide +kernel
theorem d_Mo_next_80 : decode b_Mo_next 80 = .ok (.iload 4, 2) := by decide +kernel
theorem d_Mo_next_82 : decode b_Mo_next 82 = .ok (.iload_n 2, 1) := by decide +kernel
theorem d_Mo_next_83 : decode b_Mo_next 83 = .ok (.if_icmp .le 7, 3) := by decide +kernel
theorem d_Mo_next_86 : decode b_Mo_next 86 = .ok (.iconst 1, 1) := by decide +kernel
theorem d_Mo_next_87 : decode b_Mo_next 87 = .ok (.goto 4, 3) := by decide +kernel
theorem d_Mo_next_90 : decode b_Mo_next 90 = .ok (.iconst 0, 1) := by decide +kernel
theorem d_Mo_next_91 : decode b_Mo_next 91 = .ok (.istore 6, 2) := by decide +kernel
theorem d_Mo_next_93 : decode b_Mo_next 93 = .ok (.iload_n 1, 1) := by decide +kernel
theorem d_Mo_next_94 : decode b_Mo_next 94 = .ok (.iload 4, 2) := by decide +kernel
theorem d_Mo_next_96 : decode b_Mo_next 96 = .ok (.ishr, 1) := by decide +kernel
theorem d_Mo_next_97 : decode b_Mo_next 97 = .ok (.iconst 1, 1) := by decide +kernel
theorem d_Mo_next_98 : decode b_Mo_next 98 = .ok (.iand, 1) := by decide +kernel
theorem d_Mo_next_99 : decode b_Mo_next 99 = .ok (.iconst 1, 1) := by decide +kernel
theorem d_Mo_next_100 : decode b_Mo_next 100 = .ok (.if_icmp .ne 34, 3) := by decide +kernel
theorem d_Mo_next_103 : decode b_Mo_next 103 = .ok (.iload 6, 2) := by decide +kernel
theorem d_Mo_next_105 : decode b_Mo_next 105 = .ok (.ifCond .eq 29, 3) := by decide +kernel
theorem d_Mo_next_108 : decode b_Mo_next 108 = .ok (.iload_n 3, 1) := by decide +kernel
theorem d_Mo_next_109 : decode b_Mo_next 109 = .ok (.ifCond .lt 20, 3) := by decide +kernel
theorem d_Mo_next_112 : decode b_Mo_next 112 = .ok (.aload_n 0, 1) := by decide +kernel
theorem d_Mo_next_113 : decode b_Mo_next 113 = .ok (.getfield 37, 3) := by decide +kernel
theorem d_Mo_next_116 : decode b_Mo_next 116 = .ok (.iload 4, 2) := by decide +kernel
theorem d_Mo_next_118 : decode b_Mo_next 118 = .ok (.iaload, 1) := by decide +kernel
theorem d_Mo_next_119 : decode b_Mo_next 119 = .ok (.aload_n 0, 1) := by decide +kernel
theorem d_Mo_next_120 : decode b_Mo_next 120 = .ok (.getfield 37, 3) := by decide +kernel
theorem d_Mo_next_123 : decode b_Mo_next 123 = .ok (.iload 5, 2) := by decide +kernel
theorem d_Mo_next_125 : decode b_Mo_next 125 = .ok (.iaload, 1) := by decide +kernel
theorem d_Mo_next_126 : decode b_Mo_next 126 = .ok (.if_icmp .ge 8, 3) := by decide +kernel
theorem d_Mo_next_129 : decode b_Mo_next 129 = .ok (.iload 4, 2) := by decide +kernel
theorem d_Mo_next_131 : decode b_Mo_next 131 = .ok (.goto 4, 3) := by decide +kernel
theorem d_Mo_next_134 : decode b_Mo_next 134 = .ok (.iload_n 3, 1) := by decide +kernel
theorem d_Mo_next_135 : decode b_Mo_next 135 = .ok (.istore_n 3, 1) := by decide +kernel
theorem d_Mo_next_136 : decode b_Mo_next 136 = .ok (.iinc 4 1, 3) := by decide +kernel
theorem d_Mo_next_139 : decode b_Mo_next 139 = .ok (.goto (-134), 3) := by decide +kernel
theorem d_Mo_next_142 : decode b_Mo_next 142 = .ok (.iload_n 3, 1) := by decide +kernel
theorem d_Mo_next_143 : decode b_Mo_next 143 = .ok (.ireturn, 1) := by decide +kernel
def s_Mo_next_112 (σ : MI) (τ : ML) (x1 : Int32) (x2 : Int32) (x3 : Int32) (x4 : Int32) (x5 : Int32) (K5 : Int32 → Int32 → Int32 → Int32 → MI → ML → Prop) (R : Int32 → MI → ML → Prop) : Prop :=
  vp_in x4 7 ∧ (vp_in x5 7 ∧ (((σ 39 (Int32.toNatClampNeg x5)) ≤ (σ 39 (Int32.toNatClampNeg x4)) →
  (∀ y136 : Int32, y136 = x4 + 1 → (K5 x1 x2 x3 y136 σ τ))) ∧
  (¬ (σ 39 (Int32.toNatClampNeg x5)) ≤ (σ 39 (Int32.toNatClampNeg x4)) →
  (∀ y136 : Int32, y136 = x4 + 1 → (K5 x1 x2 x4 y136 σ τ)))))
def s_Mo_next_108 (σ : MI) (τ : ML) (x1 : Int32) (x2 : Int32) (x3 : Int32) (x4 : Int32) (x5 : Int32) (K5 : Int32 → Int32 → Int32 → Int32 → MI → ML → Prop) (R : Int32 → MI → ML → Prop) : Prop :=
  (x3 < 0 →
  (∀ y136 : Int32, y136 = x4 + 1 → (K5 x1 x2 x4 y136 σ τ))) ∧
  (¬ x3 < 0 →
  (s_Mo_next_112 σ τ x1 x2 x3 x4 x5 K5 R))
def s_Mo_next_103 (σ : MI) (τ : ML) (x1 : Int32) (x2 : Int32) (x3 : Int32) (x4 : Int32) (x5 : Int32) (x6 : Int32) (K5 : Int32 → Int32 → Int32 → Int32 → MI → ML → Prop) (R : Int32 → MI → ML → Prop) : Prop :=
  (x6 = 0 →
  (∀ y136 : Int32, y136 = x4 + 1 → (K5 x1 x2 x3 y136 σ τ))) ∧
  (¬ x6 = 0 →
  (s_Mo_next_108 σ τ x1 x2 x3 x4 x5 K5 R))
def s_Mo_next_93 (σ : MI) (τ : ML) (x1 : Int32) (x2 : Int32) (x3 : Int32) (x4 : Int32) (x5 : Int32) (x6 : Int32) (K5 : Int32 → Int32 → Int32 → Int32 → MI → ML → Prop) (R : Int32 → MI → ML → Prop) : Prop :=
  (¬ ((x1 >>> (x4 &&& 31)) &&& 1) = 1 →
  (∀ y136 : Int32, y136 = x4 + 1 → (K5 x1 x2 x3 y136 σ τ))) ∧
  (((x1 >>> (x4 &&& 31)) &&& 1) = 1 →
  (s_Mo_next_103 σ τ x1 x2 x3 x4 x5 x6 K5 R))
def s_Mo_next_80 (σ : MI) (τ : ML) (x1 : Int32) (x2 : Int32) (x3 : Int32) (x4 : Int32) (x5 : Int32) (K5 : Int32 → Int32 → Int32 → Int32 → MI → ML → Prop) (R : Int32 → MI → ML → Prop) : Prop :=
  (x4 ≤ x2 →
  (s_Mo_next_93 σ τ x1 x2 x3 x4 x5 0 K5 R)) ∧
  (¬ x4 ≤ x2 →
  (s_Mo_next_93 σ τ x1 x2 x3 x4 x5 1 K5 R))
def s_Mo_next_55 (σ : MI) (τ : ML) (x1 : Int32) (x2 : Int32) (x3 : Int32) (x4 : Int32) (x5 : Int32) (K5 : Int32 → Int32 → Int32 → Int32 → MI → ML → Prop) (R : Int32 → MI → ML → Prop) : Prop :=
  vp_in x4 7 ∧ ((0 ≤ x2 →
  (vp_in x2 7 ∧ ((¬ (σ 39 (Int32.toNatClampNeg x4)) = (σ 39 (Int32.toNatClampNeg x2)) →
    (s_Mo_next_93 σ τ x1 x2 x3 x4 x5 0 K5 R)) ∧
    ((σ 39 (Int32.toNatClampNeg x4)) = (σ 39 (Int32.toNatClampNeg x2)) →
    (s_Mo_next_80 σ τ x1 x2 x3 x4 x5 K5 R))))) ∧
  (¬ 0 ≤ x2 →
  (vp_in x4 7 ∧ ((¬ (σ 39 (Int32.toNatClampNeg x4)) = (σ 39 (Int32.toNatClampNeg x4)) →
    (s_Mo_next_93 σ τ x1 x2 x3 x4 x5 0 K5 R)) ∧
    ((σ 39 (Int32.toNatClampNeg x4)) = (σ 39 (Int32.toNatClampNeg x4)) →
    (s_Mo_next_80 σ τ x1 x2 x3 x4 x5 K5 R))))))
def s_Mo_next_30 (σ : MI) (τ : ML) (x1 : Int32) (x2 : Int32) (x3 : Int32) (x4 : Int32) (x5 : Int32) (K5 : Int32 → Int32 → Int32 → Int32 → MI → ML → Prop) (R : Int32 → MI → ML → Prop) : Prop :=
  vp_in x4 7 ∧ ((0 ≤ x2 →
  (vp_in x2 7 ∧ (((σ 39 (Int32.toNatClampNeg x2)) < (σ 39 (Int32.toNatClampNeg x4)) →
    (s_Mo_next_93 σ τ x1 x2 x3 x4 x5 1 K5 R)) ∧
    (¬ (σ 39 (Int32.toNatClampNeg x2)) < (σ 39 (Int32.toNatClampNeg x4)) →
    (s_Mo_next_55 σ τ x1 x2 x3 x4 x5 K5 R))))) ∧
  (¬ 0 ≤ x2 →
  (vp_in x4 7 ∧ (((σ 39 (Int32.toNatClampNeg x4)) < (σ 39 (Int32.toNatClampNeg x4)) →
    (s_Mo_next_93 σ τ x1 x2 x3 x4 x5 1 K5 R)) ∧
    (¬ (σ 39 (Int32.toNatClampNeg x4)) < (σ 39 (Int32.toNatClampNeg x4)) →
    (s_Mo_next_55 σ τ x1 x2 x3 x4 x5 K5 R))))))
def s_Mo_next_26 (σ : MI) (τ : ML) (x1 : Int32) (x2 : Int32) (x3 : Int32) (x4 : Int32) (x5 : Int32) (K5 : Int32 → Int32 → Int32 → Int32 → MI → ML → Prop) (R : Int32 → MI → ML → Prop) : Prop :=
  (x2 < 0 →
  (s_Mo_next_93 σ τ x1 x2 x3 x4 x5 1 K5 R)) ∧
  (¬ x2 < 0 →
  (s_Mo_next_30 σ τ x1 x2 x3 x4 x5 K5 R))
def s_Mo_next_0 (σ : MI) (τ : ML) (a1 : Int32) (a2 : Int32) (K5 : Int32 → Int32 → Int32 → Int32 → MI → ML → Prop) (R : Int32 → MI → ML → Prop) : Prop :=
  ∀ y1 : Int32, y1 = (-1) → (K5 a1 a2 y1 0 σ τ)
def s_Mo_next_5 (σ : MI) (τ : ML) (x1 : Int32) (x2 : Int32) (x3 : Int32) (x4 : Int32) (K5 : Int32 → Int32 → Int32 → Int32 → MI → ML → Prop) (R : Int32 → MI → ML → Prop) : Prop :=
  ((σ 29 10) ≤ x4 →
  (R x3 σ τ)) ∧
  (¬ (σ 29 10) ≤ x4 →
  ((0 ≤ x3 →
    (s_Mo_next_26 σ τ x1 x2 x3 x4 x3 K5 R)) ∧
    (¬ 0 ≤ x3 →
    (s_Mo_next_26 σ τ x1 x2 x3 x4 x4 K5 R))))
set_option maxHeartbeats 4000000 in
set_option maxRecDepth 100000 in
theorem k_Mo_next (l : Launch) (D : va_G) (ad : Nat → Nat) (ci cl : ClassId)
    (pre : MI → ML → Int32 → Int32 → Prop) (post : MI → ML → Int32 → Int32 → Int32 → MI → ML → Prop)
    (I5 : MI → ML → Int32 → Int32 → Int32 → Int32 → Int32 → Int32 → MI → ML → Prop) (m5 : MI → ML → Int32 → Int32 → Int32 → Int32 → Int32 → Int32 → MI → ML → Nat)
    (v0 : ∀ (σ0 : MI) (τ0 : ML) (a1 : Int32) (a2 : Int32), pre σ0 τ0 a1 a2 → s_Mo_next_0 σ0 τ0 a1 a2 (fun z0 z1 z2 z3 σ9 τ9 => I5 σ0 τ0 a1 a2 z0 z1 z2 z3 σ9 τ9) (post σ0 τ0 a1 a2))
    (v5 : ∀ (σ0 : MI) (τ0 : ML) (a1 : Int32) (a2 : Int32) (x1 : Int32) (x2 : Int32) (x3 : Int32) (x4 : Int32) (σ : MI) (τ : ML), I5 σ0 τ0 a1 a2 x1 x2 x3 x4 σ τ → s_Mo_next_5 σ τ x1 x2 x3 x4 (fun z0 z1 z2 z3 σ9 τ9 => I5 σ0 τ0 a1 a2 z0 z1 z2 z3 σ9 τ9 ∧ m5 σ0 τ0 a1 a2 z0 z1 z2 z3 σ9 τ9 < m5 σ0 τ0 a1 a2 x1 x2 x3 x4 σ τ) (post σ0 τ0 a1 a2)) :
    ∀ (sz : Nat) (σ0 : MI) (τ0 : ML) (a1 : Int32) (a2 : Int32), pre σ0 τ0 a1 a2 → gMi l D (xw ad ci cl) (xt ci cl) (xa ad) y_Mo_next w_Mo_next rm_Mo_next [.ref (ad 29), .int a1, .int a2] sz σ0 τ0 (post σ0 τ0 a1 a2) := by
  intro sz σ0 τ0 a1 a2 hpre
  refine gk_ofWi (cc := b_Mo_next) (maxL := 7) (ret := (some .int)) (by decide) rfl xa_ok (Nat.le_of_ble_eq_true rfl) ?_
  intro p e s m below meth c ls hx hb hr hlocks hml hown hts hK hP hD hS hl
  have hl : lv_has ls 7 [(0, .ref (ad 29)), (1, .int a1), (2, .int a2)] := hl
  have hown : s.vm.findClass R_Mo = some m.cls := hown
  have hL : ∀ n : Nat, (∀ (x1 : Int32) (x2 : Int32) (x3 : Int32) (x4 : Int32) (σ : MI) (τ : ML) (H : Heap) (locs : List Loc) (ls : Array Slot), m5 σ0 τ0 a1 a2 x1 x2 x3 x4 σ τ < n → I5 σ0 τ0 a1 a2 x1 x2 x3 x4 σ τ → va_P D classes ((xw ad ci cl) σ τ) H → va_D (gA (xa ad) s.heap.size) ((xw ad ci cl) σ τ) → va_S (gA (xa ad) s.heap.size) s.heap H locs → lv_has ls 7 [(0, .ref (ad 29)), (1, .int x1), (2, .int x2), (3, .int x3), (4, .int x4)] → W p l e rm_Mo_next s m [.ref (ad 29), .int a1, .int a2].toArray below meth c H locs 0 0 (gQi D (xw ad ci cl) (xt ci cl) (xa ad) below [.ref (ad 29), .int a1, .int a2] s (post σ0 τ0 a1 a2)) (F0 m 5 ls [])) := by
    intro n
    induction n with
    | zero => exact fun _ _ _ _ _ _ _ _ _ hn => absurd hn (Nat.not_lt_zero _)
    | succ n ih =>
      · intro x1 x2 x3 x4 σ τ H locs ls hn hI hP hD hS hl
        have hv := v5 σ0 τ0 a1 a2 x1 x2 x3 x4 σ τ hI
        unfold s_Mo_next_5 at hv
        have j112 : ∀ (w1 : Int32) (w2 : Int32) (w3 : Int32) (w4 : Int32) (w5 : Int32) (σ1 : MI) (τ1 : ML) (H : Heap) (locs : List Loc) (ls : Array Slot), s_Mo_next_112 σ1 τ1 w1 w2 w3 w4 w5 (fun z0 z1 z2 z3 σ9 τ9 => I5 σ0 τ0 a1 a2 z0 z1 z2 z3 σ9 τ9 ∧ m5 σ0 τ0 a1 a2 z0 z1 z2 z3 σ9 τ9 < m5 σ0 τ0 a1 a2 x1 x2 x3 x4 σ τ) (post σ0 τ0 a1 a2) → va_P D classes ((xw ad ci cl) σ1 τ1) H → va_D (gA (xa ad) s.heap.size) ((xw ad ci cl) σ1 τ1) → va_S (gA (xa ad) s.heap.size) s.heap H locs → lv_has ls 7 [(0, .ref (ad 29)), (1, .int w1), (2, .int w2), (3, .int w3), (4, .int w4), (5, .int w5)] → W p l e rm_Mo_next s m [.ref (ad 29), .int a1, .int a2].toArray below meth c H locs 0 0 (gQi D (xw ad ci cl) (xt ci cl) (xa ad) below [.ref (ad 29), .int a1, .int a2] s (post σ0 τ0 a1 a2)) (F0 m 112 ls []) := by
          intro w1 w2 w3 w4 w5 σ1 τ1 H locs ls hv hP hD hS hl
          unfold s_Mo_next_112 at hv
          refine lv_aload_n hx hb d_Mo_next_112 rfl (lv_at hl 0 rfl) ?_
          refine va_get (D := D) (ci := 7) (v := .ref (ad 39)) (C := R_Mo) (T := F_Mo) (N := 24) hx hb hts iw_Mo hown hK hP 29 rfl rfl 13 (by decide) (hts _ t_w270) (fun _ h9 => h9) rfl d_Mo_next_113 ?_
          refine lv_iload hx hb d_Mo_next_116 (lv_at hl 4 rfl) ?_
          obtain ⟨hi, hv⟩ := hv
          refine va_iald hx hb hK hP 39 0 rfl rfl hi d_Mo_next_118 ?_
          refine lv_aload_n hx hb d_Mo_next_119 rfl (lv_at hl 0 rfl) ?_
          refine va_get (D := D) (ci := 7) (v := .ref (ad 39)) (C := R_Mo) (T := F_Mo) (N := 24) hx hb hts iw_Mo hown hK hP 29 rfl rfl 13 (by decide) (hts _ t_w270) (fun _ h9 => h9) rfl d_Mo_next_120 ?_
          refine lv_iload hx hb d_Mo_next_123 (lv_at hl 5 rfl) ?_
          obtain ⟨hi, hv⟩ := hv
          refine va_iald hx hb hK hP 39 0 rfl rfl hi d_Mo_next_125 ?_
          refine lv_icmp_ge (tgt := 134) hx hb d_Mo_next_126 (by decide) (fun hc => ?_) (fun hc => ?_)
          · replace hv := hv.1 hc
            refine lv_iload_n hx hb d_Mo_next_134 rfl (lv_at hl 3 rfl) ?_
            refine lv_istore_n (lv' := [(3, .int w3), (0, .ref (ad 29)), (1, .int w1), (2, .int w2), (4, .int w4), (5, .int w5)]) hx hb d_Mo_next_135 rfl hl (by decide) rfl (fun ls hl => ?_)
            obtain ⟨y136, ey136⟩ : ∃ z : Int32, z = w4 + 1 := ⟨_, rfl⟩
            replace hv := hv y136 ey136
            refine lv_iinc (v := y136) (lv' := [(4, .int y136), (3, .int w3), (0, .ref (ad 29)), (1, .int w1), (2, .int w2), (5, .int w5)]) hx hb d_Mo_next_136 hl (k := 4) rfl (by rw [ey136]; rfl) (by decide) rfl (fun ls hl => ?_)
            refine lv_goto (tgt := 5) hx hb d_Mo_next_139 (by decide) ?_
            obtain ⟨hI, hm⟩ := hv
            exact ih w1 w2 w3 y136 σ1 τ1 _ _ _ (Nat.lt_of_lt_of_le hm (Nat.le_of_lt_succ hn)) hI hP hD hS (lv_sub hl [2, 3, 4, 1, 0] rfl)
          · replace hv := hv.2 hc
            refine lv_iload hx hb d_Mo_next_129 (lv_at hl 4 rfl) ?_
            refine lv_goto (tgt := 135) hx hb d_Mo_next_131 (by decide) ?_
            refine lv_istore_n (lv' := [(3, .int w4), (0, .ref (ad 29)), (1, .int w1), (2, .int w2), (4, .int w4), (5, .int w5)]) hx hb d_Mo_next_135 rfl hl (by decide) rfl (fun ls hl => ?_)
            obtain ⟨y136, ey136⟩ : ∃ z : Int32, z = w4 + 1 := ⟨_, rfl⟩
            replace hv := hv y136 ey136
            refine lv_iinc (v := y136) (lv' := [(4, .int y136), (3, .int w4), (0, .ref (ad 29)), (1, .int w1), (2, .int w2), (5, .int w5)]) hx hb d_Mo_next_136 hl (k := 4) rfl (by rw [ey136]; rfl) (by decide) rfl (fun ls hl => ?_)
            refine lv_goto (tgt := 5) hx hb d_Mo_next_139 (by decide) ?_
            obtain ⟨hI, hm⟩ := hv
            exact ih w1 w2 w4 y136 σ1 τ1 _ _ _ (Nat.lt_of_lt_of_le hm (Nat.le_of_lt_succ hn)) hI hP hD hS (lv_sub hl [2, 3, 4, 1, 0] rfl)
        have j108 : ∀ (w1 : Int32) (w2 : Int32) (w3 : Int32) (w4 : Int32) (w5 : Int32) (σ1 : MI) (τ1 : ML) (H : Heap) (locs : List Loc) (ls : Array Slot), s_Mo_next_108 σ1 τ1 w1 w2 w3 w4 w5 (fun z0 z1 z2 z3 σ9 τ9 => I5 σ0 τ0 a1 a2 z0 z1 z2 z3 σ9 τ9 ∧ m5 σ0 τ0 a1 a2 z0 z1 z2 z3 σ9 τ9 < m5 σ0 τ0 a1 a2 x1 x2 x3 x4 σ τ) (post σ0 τ0 a1 a2) → va_P D classes ((xw ad ci cl) σ1 τ1) H → va_D (gA (xa ad) s.heap.size) ((xw ad ci cl) σ1 τ1) → va_S (gA (xa ad) s.heap.size) s.heap H locs → lv_has ls 7 [(0, .ref (ad 29)), (1, .int w1), (2, .int w2), (3, .int w3), (4, .int w4), (5, .int w5)] → W p l e rm_Mo_next s m [.ref (ad 29), .int a1, .int a2].toArray below meth c H locs 0 0 (gQi D (xw ad ci cl) (xt ci cl) (xa ad) below [.ref (ad 29), .int a1, .int a2] s (post σ0 τ0 a1 a2)) (F0 m 108 ls []) := by
          intro w1 w2 w3 w4 w5 σ1 τ1 H locs ls hv hP hD hS hl
          unfold s_Mo_next_108 at hv
          refine lv_iload_n hx hb d_Mo_next_108 rfl (lv_at hl 3 rfl) ?_
          refine lv_if_lt (tgt := 129) hx hb d_Mo_next_109 (by decide) (fun hc => ?_) (fun hc => ?_)
          · replace hv := hv.1 hc
            refine lv_iload hx hb d_Mo_next_129 (lv_at hl 4 rfl) ?_
            refine lv_goto (tgt := 135) hx hb d_Mo_next_131 (by decide) ?_
            refine lv_istore_n (lv' := [(3, .int w4), (0, .ref (ad 29)), (1, .int w1), (2, .int w2), (4, .int w4), (5, .int w5)]) hx hb d_Mo_next_135 rfl hl (by decide) rfl (fun ls hl => ?_)
            obtain ⟨y136, ey136⟩ : ∃ z : Int32, z = w4 + 1 := ⟨_, rfl⟩
            replace hv := hv y136 ey136
            refine lv_iinc (v := y136) (lv' := [(4, .int y136), (3, .int w4), (0, .ref (ad 29)), (1, .int w1), (2, .int w2), (5, .int w5)]) hx hb d_Mo_next_136 hl (k := 4) rfl (by rw [ey136]; rfl) (by decide) rfl (fun ls hl => ?_)
            refine lv_goto (tgt := 5) hx hb d_Mo_next_139 (by decide) ?_
            obtain ⟨hI, hm⟩ := hv
            exact ih w1 w2 w4 y136 σ1 τ1 _ _ _ (Nat.lt_of_lt_of_le hm (Nat.le_of_lt_succ hn)) hI hP hD hS (lv_sub hl [2, 3, 4, 1, 0] rfl)
          · replace hv := hv.2 hc
            exact j112 w1 w2 w3 w4 w5 σ1 τ1 _ _ _ hv hP hD hS (lv_sub hl [0, 1, 2, 3, 4, 5] rfl)
        have j103 : ∀ (w1 : Int32) (w2 : Int32) (w3 : Int32) (w4 : Int32) (w5 : Int32) (w6 : Int32) (σ1 : MI) (τ1 : ML) (H : Heap) (locs : List Loc) (ls : Array Slot), s_Mo_next_103 σ1 τ1 w1 w2 w3 w4 w5 w6 (fun z0 z1 z2 z3 σ9 τ9 => I5 σ0 τ0 a1 a2 z0 z1 z2 z3 σ9 τ9 ∧ m5 σ0 τ0 a1 a2 z0 z1 z2 z3 σ9 τ9 < m5 σ0 τ0 a1 a2 x1 x2 x3 x4 σ τ) (post σ0 τ0 a1 a2) → va_P D classes ((xw ad ci cl) σ1 τ1) H → va_D (gA (xa ad) s.heap.size) ((xw ad ci cl) σ1 τ1) → va_S (gA (xa ad) s.heap.size) s.heap H locs → lv_has ls 7 [(0, .ref (ad 29)), (1, .int w1), (2, .int w2), (3, .int w3), (4, .int w4), (5, .int w5), (6, .int w6)] → W p l e rm_Mo_next s m [.ref (ad 29), .int a1, .int a2].toArray below meth c H locs 0 0 (gQi D (xw ad ci cl) (xt ci cl) (xa ad) below [.ref (ad 29), .int a1, .int a2] s (post σ0 τ0 a1 a2)) (F0 m 103 ls []) := by
          intro w1 w2 w3 w4 w5 w6 σ1 τ1 H locs ls hv hP hD hS hl
          unfold s_Mo_next_103 at hv
          refine lv_iload hx hb d_Mo_next_103 (lv_at hl 6 rfl) ?_
          refine lv_if_eq (tgt := 134) hx hb d_Mo_next_105 (by decide) (fun hc => ?_) (fun hc => ?_)
          · replace hv := hv.1 hc
            refine lv_iload_n hx hb d_Mo_next_134 rfl (lv_at hl 3 rfl) ?_
            refine lv_istore_n (lv' := [(3, .int w3), (0, .ref (ad 29)), (1, .int w1), (2, .int w2), (4, .int w4), (5, .int w5), (6, .int w6)]) hx hb d_Mo_next_135 rfl hl (by decide) rfl (fun ls hl => ?_)
            obtain ⟨y136, ey136⟩ : ∃ z : Int32, z = w4 + 1 := ⟨_, rfl⟩
            replace hv := hv y136 ey136
            refine lv_iinc (v := y136) (lv' := [(4, .int y136), (3, .int w3), (0, .ref (ad 29)), (1, .int w1), (2, .int w2), (5, .int w5), (6, .int w6)]) hx hb d_Mo_next_136 hl (k := 4) rfl (by rw [ey136]; rfl) (by decide) rfl (fun ls hl => ?_)
            refine lv_goto (tgt := 5) hx hb d_Mo_next_139 (by decide) ?_
            obtain ⟨hI, hm⟩ := hv
            exact ih w1 w2 w3 y136 σ1 τ1 _ _ _ (Nat.lt_of_lt_of_le hm (Nat.le_of_lt_succ hn)) hI hP hD hS (lv_sub hl [2, 3, 4, 1, 0] rfl)
          · replace hv := hv.2 hc
            exact j108 w1 w2 w3 w4 w5 σ1 τ1 _ _ _ hv hP hD hS (lv_sub hl [0, 1, 2, 3, 4, 5] rfl)
        have j93 : ∀ (w1 : Int32) (w2 : Int32) (w3 : Int32) (w4 : Int32) (w5 : Int32) (w6 : Int32) (σ1 : MI) (τ1 : ML) (H : Heap) (locs : List Loc) (ls : Array Slot), s_Mo_next_93 σ1 τ1 w1 w2 w3 w4 w5 w6 (fun z0 z1 z2 z3 σ9 τ9 => I5 σ0 τ0 a1 a2 z0 z1 z2 z3 σ9 τ9 ∧ m5 σ0 τ0 a1 a2 z0 z1 z2 z3 σ9 τ9 < m5 σ0 τ0 a1 a2 x1 x2 x3 x4 σ τ) (post σ0 τ0 a1 a2) → va_P D classes ((xw ad ci cl) σ1 τ1) H → va_D (gA (xa ad) s.heap.size) ((xw ad ci cl) σ1 τ1) → va_S (gA (xa ad) s.heap.size) s.heap H locs → lv_has ls 7 [(0, .ref (ad 29)), (1, .int w1), (2, .int w2), (3, .int w3), (4, .int w4), (5, .int w5), (6, .int w6)] → W p l e rm_Mo_next s m [.ref (ad 29), .int a1, .int a2].toArray below meth c H locs 0 0 (gQi D (xw ad ci cl) (xt ci cl) (xa ad) below [.ref (ad 29), .int a1, .int a2] s (post σ0 τ0 a1 a2)) (F0 m 93 ls []) := by
          intro w1 w2 w3 w4 w5 w6 σ1 τ1 H locs ls hv hP hD hS hl
          unfold s_Mo_next_93 at hv
          refine lv_iload_n hx hb d_Mo_next_93 rfl (lv_at hl 1 rfl) ?_
          refine lv_iload hx hb d_Mo_next_94 (lv_at hl 4 rfl) ?_
          refine lv_ishr hx hb d_Mo_next_96 ?_
          refine lv_iconst (v := 1) hx hb d_Mo_next_97 (by decide) ?_
          refine lv_iand hx hb d_Mo_next_98 ?_
          refine lv_iconst (v := 1) hx hb d_Mo_next_99 (by decide) ?_
          refine lv_icmp_ne (tgt := 134) hx hb d_Mo_next_100 (by decide) (fun hc => ?_) (fun hc => ?_)
          · replace hv := hv.1 hc
            refine lv_iload_n hx hb d_Mo_next_134 rfl (lv_at hl 3 rfl) ?_
            refine lv_istore_n (lv' := [(3, .int w3), (0, .ref (ad 29)), (1, .int w1), (2, .int w2), (4, .int w4), (5, .int w5), (6, .int w6)]) hx hb d_Mo_next_135 rfl hl (by decide) rfl (fun ls hl => ?_)
            obtain ⟨y136, ey136⟩ : ∃ z : Int32, z = w4 + 1 := ⟨_, rfl⟩
            replace hv := hv y136 ey136
            refine lv_iinc (v := y136) (lv' := [(4, .int y136), (3, .int w3), (0, .ref (ad 29)), (1, .int w1), (2, .int w2), (5, .int w5), (6, .int w6)]) hx hb d_Mo_next_136 hl (k := 4) rfl (by rw [ey136]; rfl) (by decide) rfl (fun ls hl => ?_)
            refine lv_goto (tgt := 5) hx hb d_Mo_next_139 (by decide) ?_
            obtain ⟨hI, hm⟩ := hv
            exact ih w1 w2 w3 y136 σ1 τ1 _ _ _ (Nat.lt_of_lt_of_le hm (Nat.le_of_lt_succ hn)) hI hP hD hS (lv_sub hl [2, 3, 4, 1, 0] rfl)
          · replace hv := hv.2 hc
            exact j103 w1 w2 w3 w4 w5 w6 σ1 τ1 _ _ _ hv hP hD hS (lv_sub hl [0, 1, 2, 3, 4, 5, 6] rfl)
        have j80 : ∀ (w1 : Int32) (w2 : Int32) (w3 : Int32) (w4 : Int32) (w5 : Int32) (σ1 : MI) (τ1 : ML) (H : Heap) (locs : List Loc) (ls : Array Slot), s_Mo_next_80 σ1 τ1 w1 w2 w3 w4 w5 (fun z0 z1 z2 z3 σ9 τ9 => I5 σ0 τ0 a1 a2 z0 z1 z2 z3 σ9 τ9 ∧ m5 σ0 τ0 a1 a2 z0 z1 z2 z3 σ9 τ9 < m5 σ0 τ0 a1 a2 x1 x2 x3 x4 σ τ) (post σ0 τ0 a1 a2) → va_P D classes ((xw ad ci cl) σ1 τ1) H → va_D (gA (xa ad) s.heap.size) ((xw ad ci cl) σ1 τ1) → va_S (gA (xa ad) s.heap.size) s.heap H locs → lv_has ls 7 [(0, .ref (ad 29)), (1, .int w1), (2, .int w2), (3, .int w3), (4, .int w4), (5, .int w5)] → W p l e rm_Mo_next s m [.ref (ad 29), .int a1, .int a2].toArray below meth c H locs 0 0 (gQi D (xw ad ci cl) (xt ci cl) (xa ad) below [.ref (ad 29), .int a1, .int a2] s (post σ0 τ0 a1 a2)) (F0 m 80 ls []) := by
          intro w1 w2 w3 w4 w5 σ1 τ1 H locs ls hv hP hD hS hl
          unfold s_Mo_next_80 at hv
          refine lv_iload hx hb d_Mo_next_80 (lv_at hl 4 rfl) ?_
          refine lv_iload_n hx hb d_Mo_next_82 rfl (lv_at hl 2 rfl) ?_
          refine lv_icmp_le (tgt := 90) hx hb d_Mo_next_83 (by decide) (fun hc => ?_) (fun hc => ?_)
          · replace hv := hv.1 hc
            refine lv_iconst (v := 0) hx hb d_Mo_next_90 (by decide) ?_
            refine lv_istore (lv' := [(6, .int 0), (0, .ref (ad 29)), (1, .int w1), (2, .int w2), (3, .int w3), (4, .int w4), (5, .int w5)]) hx hb d_Mo_next_91 hl (by decide) rfl (fun ls hl => ?_)
            exact j93 w1 w2 w3 w4 w5 0 σ1 τ1 _ _ _ hv hP hD hS (lv_sub hl [1, 2, 3, 4, 5, 6, 0] rfl)
          · replace hv := hv.2 hc
            refine lv_iconst (v := 1) hx hb d_Mo_next_86 (by decide) ?_
            refine lv_goto (tgt := 91) hx hb d_Mo_next_87 (by decide) ?_
            refine lv_istore (lv' := [(6, .int 1), (0, .ref (ad 29)), (1, .int w1), (2, .int w2), (3, .int w3), (4, .int w4), (5, .int w5)]) hx hb d_Mo_next_91 hl (by decide) rfl (fun ls hl => ?_)
            exact j93 w1 w2 w3 w4 w5 1 σ1 τ1 _ _ _ hv hP hD hS (lv_sub hl [1, 2, 3, 4, 5, 6, 0] rfl)
        have j55 : ∀ (w1 : Int32) (w2 : Int32) (w3 : Int32) (w4 : Int32) (w5 : Int32) (σ1 : MI) (τ1 : ML) (H : Heap) (locs : List Loc) (ls : Array Slot), s_Mo_next_55 σ1 τ1 w1 w2 w3 w4 w5 (fun z0 z1 z2 z3 σ9 τ9 => I5 σ0 τ0 a1 a2 z0 z1 z2 z3 σ9 τ9 ∧ m5 σ0 τ0 a1 a2 z0 z1 z2 z3 σ9 τ9 < m5 σ0 τ0 a1 a2 x1 x2 x3 x4 σ τ) (post σ0 τ0 a1 a2) → va_P D classes ((xw ad ci cl) σ1 τ1) H → va_D (gA (xa ad) s.heap.size) ((xw ad ci cl) σ1 τ1) → va_S (gA (xa ad) s.heap.size) s.heap H locs → lv_has ls 7 [(0, .ref (ad 29)), (1, .int w1), (2, .int w2), (3, .int w3), (4, .int w4), (5, .int w5)] → W p l e rm_Mo_next s m [.ref (ad 29), .int a1, .int a2].toArray below meth c H locs 0 0 (gQi D (xw ad ci cl) (xt ci cl) (xa ad) below [.ref (ad 29), .int a1, .int a2] s (post σ0 τ0 a1 a2)) (F0 m 55 ls []) := by
          intro w1 w2 w3 w4 w5 σ1 τ1 H locs ls hv hP hD hS hl
          unfold s_Mo_next_55 at hv
          refine lv_aload_n hx hb d_Mo_next_55 rfl (lv_at hl 0 rfl) ?_
          refine va_get (D := D) (ci := 7) (v := .ref (ad 39)) (C := R_Mo) (T := F_Mo) (N := 24) hx hb hts iw_Mo hown hK hP 29 rfl rfl 13 (by decide) (hts _ t_w270) (fun _ h9 => h9) rfl d_Mo_next_56 ?_
          refine lv_iload hx hb d_Mo_next_59 (lv_at hl 4 rfl) ?_
          obtain ⟨hi, hv⟩ := hv
          refine va_iald hx hb hK hP 39 0 rfl rfl hi d_Mo_next_61 ?_
          refine lv_aload_n hx hb d_Mo_next_62 rfl (lv_at hl 0 rfl) ?_
          refine va_get (D := D) (ci := 7) (v := .ref (ad 39)) (C := R_Mo) (T := F_Mo) (N := 24) hx hb hts iw_Mo hown hK hP 29 rfl rfl 13 (by decide) (hts _ t_w270) (fun _ h9 => h9) rfl d_Mo_next_63 ?_
          refine lv_iload_n hx hb d_Mo_next_66 rfl (lv_at hl 2 rfl) ?_
          refine lv_if_ge (tgt := 75) hx hb d_Mo_next_67 (by decide) (fun hc => ?_) (fun hc => ?_)
          · replace hv := hv.1 hc
            refine lv_iload_n hx hb d_Mo_next_75 rfl (lv_at hl 2 rfl) ?_
            obtain ⟨hi, hv⟩ := hv
            refine va_iald hx hb hK hP 39 0 rfl rfl hi d_Mo_next_76 ?_
            refine lv_icmp_ne (tgt := 90) hx hb d_Mo_next_77 (by decide) (fun hc => ?_) (fun hc => ?_)
            · replace hv := hv.1 hc
              refine lv_iconst (v := 0) hx hb d_Mo_next_90 (by decide) ?_
              refine lv_istore (lv' := [(6, .int 0), (0, .ref (ad 29)), (1, .int w1), (2, .int w2), (3, .int w3), (4, .int w4), (5, .int w5)]) hx hb d_Mo_next_91 hl (by decide) rfl (fun ls hl => ?_)
              exact j93 w1 w2 w3 w4 w5 0 σ1 τ1 _ _ _ hv hP hD hS (lv_sub hl [1, 2, 3, 4, 5, 6, 0] rfl)
            · replace hv := hv.2 hc
              exact j80 w1 w2 w3 w4 w5 σ1 τ1 _ _ _ hv hP hD hS (lv_sub hl [0, 1, 2, 3, 4, 5] rfl)
          · replace hv := hv.2 hc
            refine lv_iload hx hb d_Mo_next_70 (lv_at hl 4 rfl) ?_
            refine lv_goto (tgt := 76) hx hb d_Mo_next_72 (by decide) ?_
            obtain ⟨hi, hv⟩ := hv
            refine va_iald hx hb hK hP 39 0 rfl rfl hi d_Mo_next_76 ?_
            refine lv_icmp_ne (tgt := 90) hx hb d_Mo_next_77 (by decide) (fun hc => ?_) (fun hc => ?_)
            · replace hv := hv.1 hc
              refine lv_iconst (v := 0) hx hb d_Mo_next_90 (by decide) ?_
              refine lv_istore (lv' := [(6, .int 0), (0, .ref (ad 29)), (1, .int w1), (2, .int w2), (3, .int w3), (4, .int w4), (5, .int w5)]) hx hb d_Mo_next_91 hl (by decide) rfl (fun ls hl => ?_)
              exact j93 w1 w2 w3 w4 w5 0 σ1 τ1 _ _ _ hv hP hD hS (lv_sub hl [1, 2, 3, 4, 5, 6, 0] rfl)
            · replace hv := hv.2 hc
              exact j80 w1 w2 w3 w4 w5 σ1 τ1 _ _ _ hv hP hD hS (lv_sub hl [0, 1, 2, 3, 4, 5] rfl)
        have j30 : ∀ (w1 : Int32) (w2 : Int32) (w3 : Int32) (w4 : Int32) (w5 : Int32) (σ1 : MI) (τ1 : ML) (H : Heap) (locs : List Loc) (ls : Array Slot), s_Mo_next_30 σ1 τ1 w1 w2 w3 w4 w5 (fun z0 z1 z2 z3 σ9 τ9 => I5 σ0 τ0 a1 a2 z0 z1 z2 z3 σ9 τ9 ∧ m5 σ0 τ0 a1 a2 z0 z1 z2 z3 σ9 τ9 < m5 σ0 τ0 a1 a2 x1 x2 x3 x4 σ τ) (post σ0 τ0 a1 a2) → va_P D classes ((xw ad ci cl) σ1 τ1) H → va_D (gA (xa ad) s.heap.size) ((xw ad ci cl) σ1 τ1) → va_S (gA (xa ad) s.heap.size) s.heap H locs → lv_has ls 7 [(0, .ref (ad 29)), (1, .int w1), (2, .int w2), (3, .int w3), (4, .int w4), (5, .int w5)] → W p l e rm_Mo_next s m [.ref (ad 29), .int a1, .int a2].toArray below meth c H locs 0 0 (gQi D (xw ad ci cl) (xt ci cl) (xa ad) below [.ref (ad 29), .int a1, .int a2] s (post σ0 τ0 a1 a2)) (F0 m 30 ls []) := by
          intro w1 w2 w3 w4 w5 σ1 τ1 H locs ls hv hP hD hS hl
          unfold s_Mo_next_30 at hv
          refine lv_aload_n hx hb d_Mo_next_30 rfl (lv_at hl 0 rfl) ?_
          refine va_get (D := D) (ci := 7) (v := .ref (ad 39)) (C := R_Mo) (T := F_Mo) (N := 24) hx hb hts iw_Mo hown hK hP 29 rfl rfl 13 (by decide) (hts _ t_w270) (fun _ h9 => h9) rfl d_Mo_next_31 ?_
          refine lv_iload hx hb d_Mo_next_34 (lv_at hl 4 rfl) ?_
          obtain ⟨hi, hv⟩ := hv
          refine va_iald hx hb hK hP 39 0 rfl rfl hi d_Mo_next_36 ?_
          refine lv_aload_n hx hb d_Mo_next_37 rfl (lv_at hl 0 rfl) ?_
          refine va_get (D := D) (ci := 7) (v := .ref (ad 39)) (C := R_Mo) (T := F_Mo) (N := 24) hx hb hts iw_Mo hown hK hP 29 rfl rfl 13 (by decide) (hts _ t_w270) (fun _ h9 => h9) rfl d_Mo_next_38 ?_
          refine lv_iload_n hx hb d_Mo_next_41 rfl (lv_at hl 2 rfl) ?_
          refine lv_if_ge (tgt := 50) hx hb d_Mo_next_42 (by decide) (fun hc => ?_) (fun hc => ?_)
          · replace hv := hv.1 hc
            refine lv_iload_n hx hb d_Mo_next_50 rfl (lv_at hl 2 rfl) ?_
            obtain ⟨hi, hv⟩ := hv
            refine va_iald hx hb hK hP 39 0 rfl rfl hi d_Mo_next_51 ?_
            refine lv_icmp_gt (tgt := 86) hx hb d_Mo_next_52 (by decide) (fun hc => ?_) (fun hc => ?_)
            · replace hv := hv.1 hc
              refine lv_iconst (v := 1) hx hb d_Mo_next_86 (by decide) ?_
              refine lv_goto (tgt := 91) hx hb d_Mo_next_87 (by decide) ?_
              refine lv_istore (lv' := [(6, .int 1), (0, .ref (ad 29)), (1, .int w1), (2, .int w2), (3, .int w3), (4, .int w4), (5, .int w5)]) hx hb d_Mo_next_91 hl (by decide) rfl (fun ls hl => ?_)
              exact j93 w1 w2 w3 w4 w5 1 σ1 τ1 _ _ _ hv hP hD hS (lv_sub hl [1, 2, 3, 4, 5, 6, 0] rfl)
            · replace hv := hv.2 hc
              exact j55 w1 w2 w3 w4 w5 σ1 τ1 _ _ _ hv hP hD hS (lv_sub hl [0, 1, 2, 3, 4, 5] rfl)
          · replace hv := hv.2 hc
            refine lv_iload hx hb d_Mo_next_45 (lv_at hl 4 rfl) ?_
            refine lv_goto (tgt := 51) hx hb d_Mo_next_47 (by decide) ?_
            obtain ⟨hi, hv⟩ := hv
            refine va_iald hx hb hK hP 39 0 rfl rfl hi d_Mo_next_51 ?_
            refine lv_icmp_gt (tgt := 86) hx hb d_Mo_next_52 (by decide) (fun hc => ?_) (fun hc => ?_)
            · replace hv := hv.1 hc
              refine lv_iconst (v := 1) hx hb d_Mo_next_86 (by decide) ?_
              refine lv_goto (tgt := 91) hx hb d_Mo_next_87 (by decide) ?_
              refine lv_istore (lv' := [(6, .int 1), (0, .ref (ad 29)), (1, .int w1), (2, .int w2), (3, .int w3), (4, .int w4), (5, .int w5)]) hx hb d_Mo_next_91 hl (by decide) rfl (fun ls hl => ?_)
              exact j93 w1 w2 w3 w4 w5 1 σ1 τ1 _ _ _ hv hP hD hS (lv_sub hl [1, 2, 3, 4, 5, 6, 0] rfl)
            · replace hv := hv.2 hc
              exact j55 w1 w2 w3 w4 w5 σ1 τ1 _ _ _ hv hP hD hS (lv_sub hl [0, 1, 2, 3, 4, 5] rfl)
        have j26 : ∀ (w1 : Int32) (w2 : Int32) (w3 : Int32) (w4 : Int32) (w5 : Int32) (σ1 : MI) (τ1 : ML) (H : Heap) (locs : List Loc) (ls : Array Slot), s_Mo_next_26 σ1 τ1 w1 w2 w3 w4 w5 (fun z0 z1 z2 z3 σ9 τ9 => I5 σ0 τ0 a1 a2 z0 z1 z2 z3 σ9 τ9 ∧ m5 σ0 τ0 a1 a2 z0 z1 z2 z3 σ9 τ9 < m5 σ0 τ0 a1 a2 x1 x2 x3 x4 σ τ) (post σ0 τ0 a1 a2) → va_P D classes ((xw ad ci cl) σ1 τ1) H → va_D (gA (xa ad) s.heap.size) ((xw ad ci cl) σ1 τ1) → va_S (gA (xa ad) s.heap.size) s.heap H locs → lv_has ls 7 [(0, .ref (ad 29)), (1, .int w1), (2, .int w2), (3, .int w3), (4, .int w4), (5, .int w5)] → W p l e rm_Mo_next s m [.ref (ad 29), .int a1, .int a2].toArray below meth c H locs 0 0 (gQi D (xw ad ci cl) (xt ci cl) (xa ad) below [.ref (ad 29), .int a1, .int a2] s (post σ0 τ0 a1 a2)) (F0 m 26 ls []) := by
          intro w1 w2 w3 w4 w5 σ1 τ1 H locs ls hv hP hD hS hl
          unfold s_Mo_next_26 at hv
          refine lv_iload_n hx hb d_Mo_next_26 rfl (lv_at hl 2 rfl) ?_
          refine lv_if_lt (tgt := 86) hx hb d_Mo_next_27 (by decide) (fun hc => ?_) (fun hc => ?_)
          · replace hv := hv.1 hc
            refine lv_iconst (v := 1) hx hb d_Mo_next_86 (by decide) ?_
            refine lv_goto (tgt := 91) hx hb d_Mo_next_87 (by decide) ?_
            refine lv_istore (lv' := [(6, .int 1), (0, .ref (ad 29)), (1, .int w1), (2, .int w2), (3, .int w3), (4, .int w4), (5, .int w5)]) hx hb d_Mo_next_91 hl (by decide) rfl (fun ls hl => ?_)
            exact j93 w1 w2 w3 w4 w5 1 σ1 τ1 _ _ _ hv hP hD hS (lv_sub hl [1, 2, 3, 4, 5, 6, 0] rfl)
          · replace hv := hv.2 hc
            exact j30 w1 w2 w3 w4 w5 σ1 τ1 _ _ _ hv hP hD hS (lv_sub hl [0, 1, 2, 3, 4, 5] rfl)
        refine lv_iload hx hb d_Mo_next_5 (lv_at hl 4 rfl) ?_
        refine lv_aload_n hx hb d_Mo_next_7 rfl (lv_at hl 0 rfl) ?_
        refine va_get (D := D) (ci := 7) (v := .int (σ 29 10)) (C := R_Mo) (T := F_Mo) (N := 24) hx hb hts iw_Mo hown hK hP 29 rfl rfl 10 (by decide) (hts _ t_w246) (fun _ h9 => h9) rfl d_Mo_next_8 ?_
        refine lv_icmp_ge (tgt := 142) hx hb d_Mo_next_11 (by decide) (fun hc => ?_) (fun hc => ?_)
        · replace hv := hv.1 hc
          refine lv_iload_n hx hb d_Mo_next_142 rfl (lv_at hl 3 rfl) ?_
          exact gk_iret hx hb hr hlocks hK hP hD hS hv d_Mo_next_143
        · replace hv := hv.2 hc
          refine lv_iload_n hx hb d_Mo_next_14 rfl (lv_at hl 3 rfl) ?_
          refine lv_if_ge (tgt := 23) hx hb d_Mo_next_15 (by decide) (fun hc => ?_) (fun hc => ?_)
          · replace hv := hv.1 hc
            refine lv_iload_n hx hb d_Mo_next_23 rfl (lv_at hl 3 rfl) ?_
            refine lv_istore (lv' := [(5, .int x3), (0, .ref (ad 29)), (1, .int x1), (2, .int x2), (3, .int x3), (4, .int x4)]) hx hb d_Mo_next_24 hl (by decide) rfl (fun ls hl => ?_)
            exact j26 x1 x2 x3 x4 x3 σ τ _ _ _ hv hP hD hS (lv_sub hl [1, 2, 3, 4, 5, 0] rfl)
          · replace hv := hv.2 hc
            refine lv_iload hx hb d_Mo_next_18 (lv_at hl 4 rfl) ?_
            refine lv_goto (tgt := 24) hx hb d_Mo_next_20 (by decide) ?_
            refine lv_istore (lv' := [(5, .int x4), (0, .ref (ad 29)), (1, .int x1), (2, .int x2), (3, .int x3), (4, .int x4)]) hx hb d_Mo_next_24 hl (by decide) rfl (fun ls hl => ?_)
            exact j26 x1 x2 x3 x4 x4 σ τ _ _ _ hv hP hD hS (lv_sub hl [1, 2, 3, 4, 5, 0] rfl)
  have hv := v0 σ0 τ0 a1 a2 hpre
  unfold s_Mo_next_0 at hv
  refine lv_iconst (v := (-1)) hx hb d_Mo_next_0 (by decide) ?_
  refine lv_topi (fun y1 ey1 => ?_)
  replace hv := hv y1 ey1
  refine lv_istore_n (lv' := [(3, .int y1), (0, .ref (ad 29)), (1, .int a1), (2, .int a2)]) hx hb d_Mo_next_1 rfl hl (by decide) rfl (fun ls hl => ?_)
  refine lv_iconst (v := 0) hx hb d_Mo_next_2 (by decide) ?_
  refine lv_istore (lv' := [(4, .int 0), (3, .int y1), (0, .ref (ad 29)), (1, .int a1), (2, .int a2)]) hx hb d_Mo_next_3 hl (by decide) rfl (fun ls hl => ?_)
  exact (hL _) a1 a2 y1 0 σ0 τ0 _ _ _ (Nat.lt_succ_self _) hv hP hD hS (lv_sub hl [2, 3, 4, 1, 0] rfl)
