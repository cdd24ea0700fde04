def P_Plan_walk (σ : MI) (τ : ML) : Prop := Vd (vx σ) ∧ Orx σ ∧ ADX σ
def Q_Plan_walk (σ : MI) (τ : ML) (σ' : MI) (τ' : ML) : Prop :=
  τ = τ' ∧ (∀ c, c ≠ 22 → c ≠ 24 → σ' c = σ c) ∧ σ' 22 0 = σ 22 0 ∧ σ' 22 1 = σ 22 1 ∧
  σ' 22 2 = nI (smP (fun p => cnp (od (vx σ) (nJ (vx σ))) (adx σ) p (nJ (vx σ))) (nP (vx σ))) ∧
  σ' 22 3 = nI (smP (fun p => trs (vx σ) (od (vx σ) (nJ (vx σ))) (adx σ) p (nJ (vx σ))) (nP (vx σ))) ∧
  ∀ l, l < nJ (vx σ) → σ' 24 (od (vx σ) (nJ (vx σ)) l) = if adx σ (od (vx σ) (nJ (vx σ)) l) < nP (vx σ) then nI (ttn (vx σ) (od (vx σ) (nJ (vx σ))) (adx σ) (adx σ (od (vx σ) (nJ (vx σ)) l)) l) else -1
def I_Plan_walk_13 (σ0 : MI) (τ0 : ML) (x4 : Int32) (σ : MI) (τ : ML) : Prop :=
  P_Plan_walk σ0 τ0 ∧ τ0 = τ ∧ (∀ c, c ≠ 22 → c ≠ 24 → σ c = σ0 c) ∧ σ 22 0 = σ0 22 0 ∧ σ 22 1 = σ0 22 1 ∧ σ 22 2 = 0 ∧ σ 22 3 = 0 ∧ ∃ i, i ≤ nJ (vx σ0) ∧ x4 = nI i ∧ ∀ j, j < i → σ 24 j = -1
def I_Plan_walk_39 (σ0 : MI) (τ0 : ML) (x4 : Int32) (σ : MI) (τ : ML) : Prop :=
  P_Plan_walk σ0 τ0 ∧ τ0 = τ ∧ (∀ c, c ≠ 22 → c ≠ 24 → σ c = σ0 c) ∧ σ 22 0 = σ0 22 0 ∧ σ 22 1 = σ0 22 1 ∧ ∃ p, p ≤ nP (vx σ0) ∧ x4 = nI p ∧
  σ 22 2 = nI (smP (fun p => cnp (od (vx σ0) (nJ (vx σ0))) (adx σ0) p (nJ (vx σ0))) p) ∧
  σ 22 3 = nI (smP (fun p => trs (vx σ0) (od (vx σ0) (nJ (vx σ0))) (adx σ0) p (nJ (vx σ0))) p) ∧
  ∀ l, l < nJ (vx σ0) → σ 24 (od (vx σ0) (nJ (vx σ0)) l) = if adx σ0 (od (vx σ0) (nJ (vx σ0)) l) < p then nI (ttn (vx σ0) (od (vx σ0) (nJ (vx σ0))) (adx σ0) (adx σ0 (od (vx σ0) (nJ (vx σ0)) l)) l) else -1
def m_Plan_walk_13 (σ0 : MI) (τ0 : ML) (x4 : Int32) (σ : MI) (τ : ML) : Nat := 1000 - x4.toNatClampNeg
def m_Plan_walk_39 (σ0 : MI) (τ0 : ML) (x4 : Int32) (σ : MI) (τ : ML) : Nat := 100 - x4.toNatClampNeg
theorem vx_22 {σ σ0 : MI} (h : ∀ c, c ≠ 22 → c ≠ 24 → σ c = σ0 c) : vx σ = vx σ0 :=
  vx_congr (by rw [h 1 (by decide) (by decide)]) (by rw [h 8 (by decide) (by decide)]) (by rw [h 15 (by decide) (by decide)]) (by rw [h 17 (by decide) (by decide)]) (fun c hc => h c (by rintro rfl; exact absurd hc (by decide)) (by rintro rfl; exact absurd hc (by decide)))
theorem v_Plan_walk_0 (σ0 : MI) (τ0 : ML) (h : P_Plan_walk σ0 τ0) : s_Plan_walk_0 P_Plan_walkOf Q_Plan_walkOf σ0 τ0 (fun z0 σ9 τ9 => I_Plan_walk_13 σ0 τ0 z0 σ9 τ9) (fun z0 σ9 τ9 => I_Plan_walk_39 σ0 τ0 z0 σ9 τ9) (Q_Plan_walk σ0 τ0) := by
  unfold s_Plan_walk_0
  intro s2 h2 s7 h7
  refine ⟨h, rfl, fun c h1 _ => by rw [h7, st2_ne h1, h2, st2_ne h1], ?_, ?_, ?_, ?_, 0, Nat.zero_le _, rfl, fun j hj => absurd hj (Nat.not_lt_zero j)⟩
  · rw [h7, st2_at, if_neg (by decide), h2, st2_at, if_neg (by decide)]
  · rw [h7, st2_at, if_neg (by decide), h2, st2_at, if_neg (by decide)]
  · rw [h7, st2_at, if_neg (by decide), h2, st2_at, if_pos ⟨rfl, rfl⟩]
  · rw [h7, st2_at, if_pos ⟨rfl, rfl⟩]
theorem v_Plan_walk_13 (σ0 : MI) (τ0 : ML) (x4 : Int32) (σ : MI) (τ : ML) (h : I_Plan_walk_13 σ0 τ0 x4 σ τ) : s_Plan_walk_13 P_Plan_walkOf Q_Plan_walkOf σ τ x4 (fun z0 σ9 τ9 => I_Plan_walk_13 σ0 τ0 z0 σ9 τ9 ∧ m_Plan_walk_13 σ0 τ0 z0 σ9 τ9 < m_Plan_walk_13 σ0 τ0 x4 σ τ) (fun z0 σ9 τ9 => I_Plan_walk_39 σ0 τ0 z0 σ9 τ9 ∧ m_Plan_walk_39 σ0 τ0 z0 σ9 τ9 < m_Plan_walk_13 σ0 τ0 x4 σ τ) (Q_Plan_walk σ0 τ0) := by
  obtain ⟨hP, rfl, hfr, h0, h1, h2, h3, i, hi, rfl, hall⟩ := h
  obtain ⟨hd, ho, had⟩ := id hP
  have hn := hd.nJl
  have e8 := vx_8 hd
  have hci : (nI i).toNatClampNeg = i := nI_clamp (by omega)
  unfold s_Plan_walk_13
  rw [hfr 8 (by decide) (by decide), e8, nI_leI (by omega) (by omega), hci]
  refine ⟨fun c => ⟨⟨hP, rfl, hfr, h0, h1, 0, Nat.zero_le _, rfl, h2, h3, fun l hl => ?_⟩, ?_⟩, fun c => ⟨vp_in_nI (by omega) (by decide), fun s e y hy => ⟨⟨hP, rfl, fun c h1 h2 => by rw [e, st2_ne h2]; exact hfr c h1 h2, ?_, ?_, ?_, ?_, i + 1, by omega, by rw [hy, nI_1], fun j hj => ?_⟩, ?_⟩⟩⟩
  · rw [if_neg (Nat.not_lt_zero _)]
    exact hall _ (by have := od_lt7 hd hl; omega)
  · unfold m_Plan_walk_13 m_Plan_walk_39
    rw [hci]
    have : (0 : Int32).toNatClampNeg = 0 := rfl
    rw [this]
    omega
  · rw [e, st2_ne (by decide)]; exact h0
  · rw [e, st2_ne (by decide)]; exact h1
  · rw [e, st2_ne (by decide)]; exact h2
  · rw [e, st2_ne (by decide)]; exact h3
  · rw [e, st2_at]
    by_cases z : j = i
    · subst z; rw [if_pos ⟨rfl, rfl⟩]
    · rw [if_neg (fun q => z q.2)]; exact hall j (by omega)
  · unfold m_Plan_walk_13
    rw [hy, nI_1, nI_clamp (by omega), hci]
    omega
theorem v_Plan_walk_39 (σ0 : MI) (τ0 : ML) (x4 : Int32) (σ : MI) (τ : ML) (h : I_Plan_walk_39 σ0 τ0 x4 σ τ) : s_Plan_walk_39 P_Plan_walkOf Q_Plan_walkOf σ τ x4 (fun z0 σ9 τ9 => I_Plan_walk_13 σ0 τ0 z0 σ9 τ9 ∧ m_Plan_walk_13 σ0 τ0 z0 σ9 τ9 < m_Plan_walk_39 σ0 τ0 x4 σ τ) (fun z0 σ9 τ9 => I_Plan_walk_39 σ0 τ0 z0 σ9 τ9 ∧ m_Plan_walk_39 σ0 τ0 z0 σ9 τ9 < m_Plan_walk_39 σ0 τ0 x4 σ τ) (Q_Plan_walk σ0 τ0) := by
  obtain ⟨hP, rfl, hfr, h0, h1, p, hp, rfl, h2, h3, h4⟩ := h
  obtain ⟨hd, ho, had⟩ := id hP
  have hn := hd.nJl
  have hnp := hd.nPl
  have e1 := vx_1 hd
  have evx := vx_22 hfr
  have hcp : (nI p).toNatClampNeg = p := nI_clamp (by omega)
  have eadx : adx σ = adx σ0 := by funext j; unfold adx; rw [hfr 23 (by decide) (by decide)]
  unfold s_Plan_walk_39
  rw [hfr 1 (by decide) (by decide), e1, nI_leI (by omega) (by omega), hcp]
  refine ⟨fun c => ?_, fun c => ⟨vp_in_nI (by omega) (by decide), ⟨by rw [evx]; exact hd, ?_, ?_, vp_in_nI (by omega) (by decide), by rw [hcp]⟩, fun s t hq => ?_⟩⟩
  · have e : p = nP (vx σ0) := by omega
    subst e
    exact ⟨rfl, hfr, h0, h1, h2, h3, h4⟩
  · unfold Orx; rw [evx, hfr 14 (by decide) (by decide)]; exact ho
  · unfold ADX; rw [evx, eadx, hfr 23 (by decide) (by decide)]; exact had
  · obtain ⟨rfl, q1, q2, q3, q4, q5, q6⟩ := hq
    rw [evx, eadx, hcp] at q4 q5 q6
    intro y hy
    refine ⟨⟨hP, rfl, fun c h1 h2 => by rw [q1 c h1 h2]; exact hfr c h1 h2, by rw [q2]; exact h0, by rw [q3]; exact h1, p + 1, by omega, by rw [hy, nI_1], ?_, ?_, fun l hl => ?_⟩, ?_⟩
    · rw [q4, h2, nI_add]; rfl
    · rw [q5, h3, nI_add]; rfl
    · rw [q6 l hl]
      by_cases z : adx σ0 (od (vx σ0) (nJ (vx σ0)) l) = p
      · rw [if_pos z, if_pos (by omega), z]
      · rw [if_neg z, h4 l hl]
        have : (adx σ0 (od (vx σ0) (nJ (vx σ0)) l) < p + 1) ↔ (adx σ0 (od (vx σ0) (nJ (vx σ0)) l) < p) := by omega
        simp only [this]
    · unfold m_Plan_walk_39
      rw [hy, nI_1, nI_clamp (by omega), hcp]
      omega
theorem c_Plan_walk (l : Launch) (D : va_G) (ad : Nat → Nat) (ci cl : ClassId) : ∀ (sz : Nat) (σ0 : MI) (τ0 : ML), P_Plan_walk σ0 τ0 → gMv l D (xw ad ci cl) (xt ci cl) (xa ad) y_Plan_walk w_Plan_walk rm_Plan_walk [.ref (ad 22), .ref (ad 1), .ref (ad 8), .ref (ad 17)] sz σ0 τ0 (Q_Plan_walk σ0 τ0) :=
  k_Plan_walk l D ad ci cl P_Plan_walk Q_Plan_walk P_Plan_walkOf Q_Plan_walkOf (c_Plan_walkOf l D ad ci cl) I_Plan_walk_13 m_Plan_walk_13 I_Plan_walk_39 m_Plan_walk_39 v_Plan_walk_0 v_Plan_walk_13 v_Plan_walk_39
def P_Tugs_pullOf (σ : MI) (τ : ML) (a1 : Int32) : Prop := Vd (vx σ) ∧ vp_in a1 128
def Q_Tugs_pullOf (σ : MI) (τ : ML) (a1 r : Int32) (σ' : MI) (τ' : ML) : Prop := σ = σ' ∧ τ = τ' ∧ r = nI (plo (vx σ) a1.toNatClampNeg (nT (vx σ)))
def I_Tugs_pullOf_4 (σ0 : MI) (τ0 : ML) (a1 x1 x2 x3 : Int32) (σ : MI) (τ : ML) : Prop :=
  σ0 = σ ∧ τ0 = τ ∧ a1 = x1 ∧ P_Tugs_pullOf σ0 τ0 a1 ∧ ∃ i, i ≤ nT (vx σ0) ∧ x3 = nI i ∧ x2 = nI (plo (vx σ0) a1.toNatClampNeg i)
def m_Tugs_pullOf_4 (σ0 : MI) (τ0 : ML) (a1 x1 x2 x3 : Int32) (σ : MI) (τ : ML) : Nat := 100 - x3.toNatClampNeg
theorem v_Tugs_pullOf_0 (σ0 : MI) (τ0 : ML) (a1 : Int32) (h : P_Tugs_pullOf σ0 τ0 a1) : s_Tugs_pullOf_0 σ0 τ0 a1 (fun z0 z1 z2 σ9 τ9 => I_Tugs_pullOf_4 σ0 τ0 a1 z0 z1 z2 σ9 τ9) (Q_Tugs_pullOf σ0 τ0 a1) := by
  unfold s_Tugs_pullOf_0
  exact ⟨rfl, rfl, rfl, h, 0, Nat.zero_le _, rfl, rfl⟩
theorem v_Tugs_pullOf_4 (σ0 : MI) (τ0 : ML) (a1 : Int32) (x1 : Int32) (x2 : Int32) (x3 : Int32) (σ : MI) (τ : ML) (h : I_Tugs_pullOf_4 σ0 τ0 a1 x1 x2 x3 σ τ) : s_Tugs_pullOf_4 σ τ x1 x2 x3 (fun z0 z1 z2 σ9 τ9 => I_Tugs_pullOf_4 σ0 τ0 a1 z0 z1 z2 σ9 τ9 ∧ m_Tugs_pullOf_4 σ0 τ0 a1 z0 z1 z2 σ9 τ9 < m_Tugs_pullOf_4 σ0 τ0 a1 x1 x2 x3 σ τ) (Q_Tugs_pullOf σ0 τ0 a1) := by
  obtain ⟨rfl, rfl, rfl, hP, i, hi, rfl, rfl⟩ := h
  obtain ⟨hd, hS⟩ := id hP
  obtain ⟨S, hS, rfl⟩ := vp_in_of hS (by decide)
  have hcS : (nI S).toNatClampNeg = S := nI_clamp (by omega)
  have hnt := hd.nTl
  have e15 := vx_15 hd
  have hci : (nI i).toNatClampNeg = i := nI_clamp (by omega)
  have hm : ∀ (u y : Int32), i < nT (vx σ0) → y = nI i + 1 → m_Tugs_pullOf_4 σ0 τ0 (nI S) (nI S) u y σ0 τ0 < m_Tugs_pullOf_4 σ0 τ0 (nI S) (nI S) (nI (plo (vx σ0) (nI S).toNatClampNeg i)) (nI i) σ0 τ0 := by
    intro u y hl hy
    unfold m_Tugs_pullOf_4
    rw [hy, nI_1, nI_clamp (by omega), hci]
    omega
  unfold s_Tugs_pullOf_4
  rw [e15, nI_leI (by omega) (by omega), bit_0 (by omega) (by omega), hci]
  refine ⟨fun c => ⟨rfl, rfl, ?_⟩, fun c => ⟨fun c2 y hy => ⟨⟨rfl, rfl, rfl, hP, i + 1, by omega, by rw [hy, nI_1], ?_⟩, hm _ _ (by omega) hy⟩, fun c2 => ⟨vp_in_nI (by omega) (by decide), fun y28 h28 y29 h29 => ⟨⟨rfl, rfl, rfl, hP, i + 1, by omega, by rw [h29, nI_1], ?_⟩, hm _ _ (by omega) h29⟩⟩⟩⟩
  · have e : i = nT (vx σ0) := by omega
    rw [e]
  · rw [hcS]
    show nI (plo _ S i) = nI (plo _ S i + (if S.testBit i then (vx σ0 16 i).toNat else 0))
    rw [c2]; rfl
  · have hb : S.testBit i = true := by simpa using c2
    rw [h28, hcS]
    show nI (plo _ S i) + σ0 16 i = nI (plo _ S i + (if S.testBit i then (vx σ0 16 i).toNat else 0))
    rw [if_pos hb, ← nI_add]
    congr 1
    exact z_of (hd.tug (t := i) (by omega)).1
theorem c_Tugs_pullOf (l : Launch) (D : va_G) (ad : Nat → Nat) (ci cl : ClassId) : ∀ (sz : Nat) (σ0 : MI) (τ0 : ML) (a1 : Int32), P_Tugs_pullOf σ0 τ0 a1 → gMi l D (xw ad ci cl) (xt ci cl) (xa ad) y_Tugs_pullOf w_Tugs_pullOf rm_Tugs_pullOf [.ref (ad 15), .int a1] sz σ0 τ0 (Q_Tugs_pullOf σ0 τ0 a1) :=
  k_Tugs_pullOf l D ad ci cl P_Tugs_pullOf Q_Tugs_pullOf I_Tugs_pullOf_4 m_Tugs_pullOf_4 v_Tugs_pullOf_0 v_Tugs_pullOf_4
def P_Tugs_isBetter (σ : MI) (τ : ML) (a1 a2 : Int32) : Prop := Vd (vx σ) ∧ vp_in a1 128 ∧ vp_in a2 128
def Q_Tugs_isBetter (σ : MI) (τ : ML) (a1 a2 r : Int32) (σ' : MI) (τ' : ML) : Prop := σ = σ' ∧ τ = τ' ∧ rb (btr (vx σ) a1.toNatClampNeg a2.toNatClampNeg) r
theorem pcn_le (S : Nat) : pcn S ≤ 7 := by
  have := dp_sb_le (g := fun _ => 1) (S := S) 1 (fun _ => Nat.le_refl 1) 7
  unfold pcn; omega
theorem v_Tugs_isBetter_0 (σ0 : MI) (τ0 : ML) (a1 : Int32) (a2 : Int32) (h : P_Tugs_isBetter σ0 τ0 a1 a2) : s_Tugs_isBetter_0 P_Integer_bitCount Q_Integer_bitCount P_Tugs_pullOf Q_Tugs_pullOf σ0 τ0 a1 a2 (Q_Tugs_isBetter σ0 τ0 a1 a2) := by
  obtain ⟨hd, h1, h2⟩ := id h
  obtain ⟨A, hA, rfl⟩ := vp_in_of h1 (by decide)
  obtain ⟨B, hB, rfl⟩ := vp_in_of h2 (by decide)
  have hcA : (nI A).toNatClampNeg = A := nI_clamp (by omega)
  have hcB : (nI B).toNatClampNeg = B := nI_clamp (by omega)
  have hnt := hd.nTl
  have p1 := pcn_le A
  have p2 := pcn_le B
  have l1 := plo_le hd A (nT (vx σ0)) hnt.1
  have l2 := plo_le hd B (nT (vx σ0)) hnt.1
  unfold s_Tugs_isBetter_0
  refine ⟨h1, fun r1 s1 t1 hq => ?_⟩
  obtain ⟨rfl, rfl, rfl⟩ := hq
  refine ⟨h2, fun r5 s5 t5 hq => ?_⟩
  obtain ⟨rfl, rfl, rfl⟩ := hq
  intro y9 h9
  rw [hcA, hcB] at h9
  have e9 : y9.toInt = (pcn A : Int) - pcn B := by
    rw [h9, z_sub (by rw [z_nI (by omega), z_nI (by omega)]; omega) (by rw [z_nI (by omega), z_nI (by omega)]; omega), z_nI (by omega), z_nI (by omega)]
  refine ⟨fun c => ⟨⟨hd, h1⟩, fun r26 s26 t26 hq => ?_⟩, fun c => ⟨fun c2 => ⟨by decide, rfl, rfl, rb_f ?_⟩, fun c2 => ⟨by decide, rfl, rfl, rb_t ?_⟩⟩⟩
  · obtain ⟨rfl, rfl, rfl⟩ := hq
    rw [z_eq, e9, zc_0] at c
    refine ⟨⟨hd, h2⟩, fun r31 s31 t31 hq => ?_⟩
    obtain ⟨rfl, rfl, rfl⟩ := hq
    intro y35 h35
    rw [hcA, hcB] at h35
    have e35 : y35.toInt = (plo (vx σ0) A (nT (vx σ0)) : Int) - plo (vx σ0) B (nT (vx σ0)) := by
      rw [h35, z_sub (by rw [z_nI (by omega), z_nI (by omega)]; omega) (by rw [z_nI (by omega), z_nI (by omega)]; omega), z_nI (by omega), z_nI (by omega)]
    refine ⟨fun c2 y56 h56 => ?_, fun c2 => ⟨fun c3 => ⟨by decide, rfl, rfl, rb_f ?_⟩, fun c3 => ⟨by decide, rfl, rfl, rb_t ?_⟩⟩⟩
    · rw [z_eq, e35, zc_0] at c2
      subst h56
      refine ⟨fun c3 => ⟨by decide, rfl, rfl, rb_f ?_⟩, fun c3 => ⟨by decide, rfl, rfl, rb_t ?_⟩⟩
      · rw [hcA, hcB]
        rintro (z | ⟨z, z2 | ⟨z2, z3⟩⟩)
        · omega
        · omega
        · exact z3 c3
      · rw [hcA, hcB]
        exact Or.inr ⟨by omega, Or.inr ⟨by omega, c3⟩⟩
    · rw [hcA, hcB]
      rw [z_eq, e35, zc_0] at c2
      rw [z_le, zc_0, e35] at c3
      rintro (z | ⟨z, z2 | ⟨z2, z3⟩⟩) <;> omega
    · rw [hcA, hcB]
      rw [z_eq, e35, zc_0] at c2
      rw [z_le, zc_0, e35] at c3
      exact Or.inr ⟨by omega, Or.inl (by omega)⟩
  · rw [hcA, hcB]
    rw [z_eq, e9, zc_0] at c
    rw [z_le, zc_0, e9] at c2
    rintro (z | ⟨z, z2⟩) <;> omega
  · rw [hcA, hcB]
    rw [z_eq, e9, zc_0] at c
    rw [z_le, zc_0, e9] at c2
    exact Or.inl (by omega)
theorem c_Tugs_isBetter (l : Launch) (D : va_G) (ad : Nat → Nat) (ci cl : ClassId) : ∀ (sz : Nat) (σ0 : MI) (τ0 : ML) (a1 : Int32) (a2 : Int32), P_Tugs_isBetter σ0 τ0 a1 a2 → gMi l D (xw ad ci cl) (xt ci cl) (xa ad) y_Tugs_isBetter w_Tugs_isBetter rm_Tugs_isBetter [.ref (ad 15), .int a1, .int a2] sz σ0 τ0 (Q_Tugs_isBetter σ0 τ0 a1 a2) :=
  k_Tugs_isBetter l D ad ci cl P_Tugs_isBetter Q_Tugs_isBetter P_Integer_bitCount Q_Integer_bitCount P_Tugs_pullOf Q_Tugs_pullOf (c_Integer_bitCount l D ad ci cl) (c_Tugs_pullOf l D ad ci cl) v_Tugs_isBetter_0
