def whyf (d : Dt) (B j : Nat) (p : Nat) : Prop := ∃ q, q < p ∧ B.testBit q = false ∧ d 9 j ≤ d 2 q
def P_PT_whyNobody (σ : MI) (τ : ML) (a1 : Int32) : Prop := Vd (vx σ) ∧ PLX σ ∧ vp_in a1 7 ∧ a1.toNatClampNeg < nJ (vx σ)
/-- why a job has nobody -/
def Why (d : Dt) (B j x : Nat) (r : Int32) : Prop :=
  (x ≠ 4 ∧ r = 0) ∨ (x = 4 ∧ ((∃ q, q < nP d ∧ B.testBit q = false ∧ d 9 j ≤ d 2 q ∧ trv d (od d (nJ d)) q (2 ^ j) (nJ d) ≠ none) ∧ r = 3 ∨
  (∀ q, q < nP d → B.testBit q = false → d 9 j ≤ d 2 q → trv d (od d (nJ d)) q (2 ^ j) (nJ d) = none) ∧ ((∃ q, q < nP d ∧ B.testBit q = false ∧ d 9 j ≤ d 2 q) ∧ r = 2 ∨ (∀ q, q < nP d → B.testBit q = false → ¬ d 9 j ≤ d 2 q) ∧ r = 1)))
def Q_PT_whyNobody (σ : MI) (τ : ML) (a1 r : Int32) (σ' : MI) (τ' : ML) : Prop := σ = σ' ∧ τ = τ' ∧ Why (vx σ) (barm (vx σ)) a1.toNatClampNeg (adx σ a1.toNatClampNeg) r
def I_PT_whyNobody_19 (σ0 : MI) (τ0 : ML) (a1 x1 x2 x3 : Int32) (σ : MI) (τ : ML) : Prop :=
  σ0 = σ ∧ τ0 = τ ∧ a1 = x1 ∧ P_PT_whyNobody σ0 τ0 a1 ∧ adx σ0 a1.toNatClampNeg = 4 ∧ ∃ p, p ≤ nP (vx σ0) ∧ x3 = nI p ∧
  (∀ q, q < p → (barm (vx σ0)).testBit q = false → vx σ0 9 a1.toNatClampNeg ≤ vx σ0 2 q → trv (vx σ0) (od (vx σ0) (nJ (vx σ0))) q (2 ^ a1.toNatClampNeg) (nJ (vx σ0)) = none) ∧
  ((∃ q, q < p ∧ (barm (vx σ0)).testBit q = false ∧ vx σ0 9 a1.toNatClampNeg ≤ vx σ0 2 q) ∧ x2 = 2 ∨ (∀ q, q < p → (barm (vx σ0)).testBit q = false → ¬ vx σ0 9 a1.toNatClampNeg ≤ vx σ0 2 q) ∧ x2 = 1)
def m_PT_whyNobody_19 (σ0 : MI) (τ0 : ML) (a1 x1 x2 x3 : Int32) (σ : MI) (τ : ML) : Nat := 100 - x3.toNatClampNeg
theorem v_PT_whyNobody_0 (σ0 : MI) (τ0 : ML) (a1 : Int32) (h : P_PT_whyNobody σ0 τ0 a1) : s_PT_whyNobody_0 P_Plan_isBarred Q_Plan_isBarred P_Planner_travelOf Q_Planner_travelOf σ0 τ0 a1 (fun z0 z1 z2 σ9 τ9 => I_PT_whyNobody_19 σ0 τ0 a1 z0 z1 z2 σ9 τ9) (Q_PT_whyNobody σ0 τ0 a1) := by
  obtain ⟨hd, hpl, h1, hj⟩ := id h
  have hA := hpl.2.1 _ hj
  unfold s_PT_whyNobody_0
  rw [hA.1, dv_m1 hA.2]
  refine ⟨h1, fun c => ⟨rfl, rfl, rfl, h, c, 0, Nat.zero_le _, rfl, fun q hq => absurd hq (Nat.not_lt_zero q), Or.inr ⟨fun q hq => absurd hq (Nat.not_lt_zero q), rfl⟩⟩, fun c => ⟨rfl, rfl, Or.inl ⟨c, rfl⟩⟩⟩
theorem v_PT_whyNobody_19 (σ0 : MI) (τ0 : ML) (a1 : Int32) (x1 : Int32) (x2 : Int32) (x3 : Int32) (σ : MI) (τ : ML) (h : I_PT_whyNobody_19 σ0 τ0 a1 x1 x2 x3 σ τ) : s_PT_whyNobody_19 P_Plan_isBarred Q_Plan_isBarred P_Planner_travelOf Q_Planner_travelOf σ τ x1 x2 x3 (fun z0 z1 z2 σ9 τ9 => I_PT_whyNobody_19 σ0 τ0 a1 z0 z1 z2 σ9 τ9 ∧ m_PT_whyNobody_19 σ0 τ0 a1 z0 z1 z2 σ9 τ9 < m_PT_whyNobody_19 σ0 τ0 a1 x1 x2 x3 σ τ) (Q_PT_whyNobody σ0 τ0 a1) := by
  obtain ⟨rfl, rfl, rfl, hP, h4, p, hp, rfl, hall, hw⟩ := h
  obtain ⟨hd, hpl, h1, hj⟩ := id hP
  obtain ⟨j, hj7, rfl⟩ := vp_in_of h1 (by decide)
  have hcj : (nI j).toNatClampNeg = j := nI_clamp (by omega)
  have hnp := hd.nPl
  have hn := hd.nJl
  have e1 := vx_1 hd
  have hB := barm_lt hd
  have hcp : (nI p).toNatClampNeg = p := nI_clamp (by omega)
  have hp128 : 2 ^ j < 128 := by
    have : 2 ^ j ≤ 2 ^ 6 := Nat.pow_le_pow_right (by decide) (by omega)
    omega
  have hm : ∀ (u y : Int32), p < nP (vx σ0) → y = nI p + 1 → m_PT_whyNobody_19 σ0 τ0 (nI j) (nI j) u y σ0 τ0 < m_PT_whyNobody_19 σ0 τ0 (nI j) (nI j) x2 (nI p) σ0 τ0 := by
    intro u y hl hy
    unfold m_PT_whyNobody_19
    rw [hy, nI_1, nI_clamp (by omega), hcp]
    omega
  rw [hcj] at hall hw h4
  have hend : ∀ (u y : Int32), y = nI p + 1 → ((barm (vx σ0)).testBit p = false → vx σ0 9 j ≤ vx σ0 2 p → trv (vx σ0) (od (vx σ0) (nJ (vx σ0))) p (2 ^ j) (nJ (vx σ0)) = none) →
      (((barm (vx σ0)).testBit p = false ∧ vx σ0 9 j ≤ vx σ0 2 p ∧ u = 2) ∨ (((barm (vx σ0)).testBit p = false → ¬ vx σ0 9 j ≤ vx σ0 2 p) ∧ u = x2)) → p < nP (vx σ0) → I_PT_whyNobody_19 σ0 τ0 (nI j) (nI j) u y σ0 τ0 := by
    intro u y hy hn1 hn2 hlt
    refine ⟨rfl, rfl, rfl, hP, by rw [hcj]; exact h4, p + 1, by omega, by rw [hy, nI_1], ?_, ?_⟩
    · rw [hcj]
      intro q hq
      by_cases e : q = p
      · subst e; exact hn1
      · exact hall q (by omega)
    · rw [hcj]
      rcases hn2 with ⟨z1, z2, z3⟩ | ⟨z1, z2⟩
      · exact Or.inl ⟨⟨p, by omega, z1, z2⟩, z3⟩
      · rcases hw with ⟨⟨q, hq, w1, w2⟩, w3⟩ | ⟨w1, w2⟩
        · exact Or.inl ⟨⟨q, by omega, w1, w2⟩, by rw [z2, w3]⟩
        · refine Or.inr ⟨fun q hq => ?_, by rw [z2, w2]⟩
          by_cases e : q = p
          · subst e; exact z1
          · exact w1 q (by omega)
  unfold s_PT_whyNobody_19
  rw [e1, nI_leI (by omega) (by omega)]
  refine ⟨fun c => ⟨rfl, rfl, ?_⟩, fun c => ⟨trivial, fun r35 s35 t35 hq => ?_⟩⟩
  · have e : p = nP (vx σ0) := by omega
    subst e
    rw [hcj]
    refine Or.inr ⟨h4, Or.inr ⟨hall, ?_⟩⟩
    exact hw
  · obtain ⟨rfl, rfl, hr⟩ := hq
    rw [hpl.2.2.1] at hr
    have hbit : rb ((barm (vx σ0)).testBit p = true) r35 := rb_imp hr (by
      rw [bit_0 (by omega) (by omega)]
      cases (barm (vx σ0)).testBit p <;> simp)
    have hlt : p < nP (vx σ0) := by omega
    rw [hcj, hcp]
    refine ⟨fun c2 y hy => ⟨hend _ _ hy (fun z => ?_) (Or.inr ⟨fun z => ?_, rfl⟩) hlt, hm _ _ hlt hy⟩, fun c2 => ⟨vp_in_nI (by omega) (by decide), h1, ?_, ?_⟩⟩
    · rw [rb_1 hbit c2] at z; cases z
    · rw [rb_1 hbit c2] at z; cases z
    · have hb : (barm (vx σ0)).testBit p = false := by have := rb_0 hbit c2; simpa using this
      intro c3
      rw [z_le] at c3
      rw [zb_one (by omega)]
      refine ⟨⟨hd, hpl.1, vp_in_nI (by omega) (by decide), vp_in_nI hp128 (by decide)⟩, fun r s t hq => ?_⟩
      obtain ⟨rfl, rfl, hr2⟩ := hq
      rw [hcp, nI_clamp (n := 2 ^ j) (by omega)] at hr2
      have hov := ov_m1 (x := trv (vx σ0) (od (vx σ0) (nJ (vx σ0))) p (2 ^ j) (nJ (vx σ0))) (fun t ht => by
        have := trv_rng hd (by omega) hn.1 (fun k hk => Nat.lt_of_lt_of_le (od_lt7 hd hk) hn.1) ht
        omega)
      rw [← hr2] at hov
      refine ⟨fun c4 y hy => ⟨hend _ _ hy (fun _ _ => hov.mp c4) (Or.inl ⟨hb, c3, rfl⟩) hlt, hm _ _ hlt hy⟩, fun c4 => ⟨rfl, rfl, ?_⟩⟩
      rw [hcj]
      exact Or.inr ⟨h4, Or.inl ⟨⟨p, hlt, hb, c3, fun z => c4 (hov.mpr z)⟩, rfl⟩⟩
    · intro c3 y hy
      rw [z_le] at c3
      exact ⟨hend _ _ hy (fun _ z => absurd z c3) (Or.inr ⟨fun _ => c3, rfl⟩) hlt, hm _ _ hlt hy⟩
theorem c_PT_whyNobody (l : Launch) (D : va_G) (ad : Nat → Nat) (ci cl : ClassId) : ∀ (sz : Nat) (σ0 : MI) (τ0 : ML) (a1 : Int32), P_PT_whyNobody σ0 τ0 a1 → gMi l D (xw ad ci cl) (xt ci cl) (xa ad) y_PT_whyNobody w_PT_whyNobody rm_PT_whyNobody [.ref (ad 0), .int a1] sz σ0 τ0 (Q_PT_whyNobody σ0 τ0 a1) :=
  k_PT_whyNobody l D ad ci cl P_PT_whyNobody Q_PT_whyNobody P_Plan_isBarred Q_Plan_isBarred P_Planner_travelOf Q_Planner_travelOf (c_Plan_isBarred l D ad ci cl) (c_Planner_travelOf l D ad ci cl) I_PT_whyNobody_19 m_PT_whyNobody_19 v_PT_whyNobody_0 v_PT_whyNobody_19
