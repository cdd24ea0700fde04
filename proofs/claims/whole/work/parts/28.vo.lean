def P_Mo_isAhead (σ : MI) (τ : ML) (a0 a1 : Int32) : Prop := True
def Q_Mo_isAhead (σ : MI) (τ : ML) (a0 a1 r : Int32) (σ' : MI) (τ' : ML) : Prop := σ = σ' ∧ τ = τ' ∧ rb (¬ ((a0 &&& (a0 ^^^ a1)) &&& (-(a0 ^^^ a1))) = 0) r
theorem v_Mo_isAhead_0 (σ0 : MI) (τ0 : ML) (a0 : Int32) (a1 : Int32) (h : P_Mo_isAhead σ0 τ0 a0 a1) : s_Mo_isAhead_0 σ0 τ0 a0 a1 (Q_Mo_isAhead σ0 τ0 a0 a1) := by
  unfold s_Mo_isAhead_0
  intro y hy
  subst hy
  refine ⟨fun c => ⟨by decide, rfl, rfl, rb_f (fun z => z ?_)⟩, fun c => ⟨fun c2 => ⟨by decide, rfl, rfl, rb_f (fun z => z ?_)⟩, fun c2 => ⟨by decide, rfl, rfl, rb_t ?_⟩⟩⟩
  · rw [c]; simp
  · rw [Int32.and_assoc]; exact c2
  · rw [Int32.and_assoc]; exact c2
theorem c_Mo_isAhead (l : Launch) (D : va_G) (ad : Nat → Nat) (ci cl : ClassId) : ∀ (sz : Nat) (σ0 : MI) (τ0 : ML) (a0 : Int32) (a1 : Int32), P_Mo_isAhead σ0 τ0 a0 a1 → gMi l D (xw ad ci cl) (xt ci cl) (xa ad) y_Mo_isAhead w_Mo_isAhead rm_Mo_isAhead [.int a0, .int a1] sz σ0 τ0 (Q_Mo_isAhead σ0 τ0 a0 a1) :=
  k_Mo_isAhead l D ad ci cl P_Mo_isAhead Q_Mo_isAhead v_Mo_isAhead_0
def P_Mo_together (σ : MI) (τ : ML) (a1 : Int32) : Prop := Vd (vm σ) ∧ vp_in a1 128
def Q_Mo_together (σ : MI) (τ : ML) (a1 r : Int32) (σ' : MI) (τ' : ML) : Prop := σ = σ' ∧ τ = τ' ∧ r = nI (plo (vm σ) a1.toNatClampNeg (nT (vm σ)))
def I_Mo_together_4 (σ0 : MI) (τ0 : ML) (a1 x1 x2 x3 : Int32) (σ : MI) (τ : ML) : Prop :=
  σ0 = σ ∧ τ0 = τ ∧ a1 = x1 ∧ P_Mo_together σ0 τ0 a1 ∧ ∃ i, i ≤ nT (vm σ0) ∧ x3 = nI i ∧ x2 = nI (plo (vm σ0) a1.toNatClampNeg i)
def m_Mo_together_4 (σ0 : MI) (τ0 : ML) (a1 x1 x2 x3 : Int32) (σ : MI) (τ : ML) : Nat := 100 - x3.toNatClampNeg
theorem v_Mo_together_0 (σ0 : MI) (τ0 : ML) (a1 : Int32) (h : P_Mo_together σ0 τ0 a1) : s_Mo_together_0 σ0 τ0 a1 (fun z0 z1 z2 σ9 τ9 => I_Mo_together_4 σ0 τ0 a1 z0 z1 z2 σ9 τ9) (Q_Mo_together σ0 τ0 a1) := by
  unfold s_Mo_together_0
  exact ⟨rfl, rfl, rfl, h, 0, Nat.zero_le _, rfl, rfl⟩
theorem v_Mo_together_4 (σ0 : MI) (τ0 : ML) (a1 : Int32) (x1 : Int32) (x2 : Int32) (x3 : Int32) (σ : MI) (τ : ML) (h : I_Mo_together_4 σ0 τ0 a1 x1 x2 x3 σ τ) : s_Mo_together_4 σ τ x1 x2 x3 (fun z0 z1 z2 σ9 τ9 => I_Mo_together_4 σ0 τ0 a1 z0 z1 z2 σ9 τ9 ∧ m_Mo_together_4 σ0 τ0 a1 z0 z1 z2 σ9 τ9 < m_Mo_together_4 σ0 τ0 a1 x1 x2 x3 σ τ) (Q_Mo_together σ0 τ0 a1) := by
  obtain ⟨rfl, rfl, rfl, hP, i, hi, rfl, rfl⟩ := h
  obtain ⟨hd, hS⟩ := id hP
  obtain ⟨S, hS, rfl⟩ := vp_in_of hS (by decide)
  have hcS : (nI S).toNatClampNeg = S := nI_clamp (by omega)
  have hnt := hd.nTl
  have e15 := vm_15 hd
  have hci : (nI i).toNatClampNeg = i := nI_clamp (by omega)
  have hm : ∀ (u y : Int32), i < nT (vm σ0) → y = nI i + 1 → m_Mo_together_4 σ0 τ0 (nI S) (nI S) u y σ0 τ0 < m_Mo_together_4 σ0 τ0 (nI S) (nI S) (nI (plo (vm σ0) (nI S).toNatClampNeg i)) (nI i) σ0 τ0 := by
    intro u y hl hy
    unfold m_Mo_together_4
    rw [hy, nI_1, nI_clamp (by omega), hci]
    omega
  unfold s_Mo_together_4
  rw [e15, nI_leI (by omega) (by omega), bit_1 (by omega) (by omega), hci]
  refine ⟨fun c => ⟨rfl, rfl, ?_⟩, fun c => ⟨fun c2 y28 h28 y29 h29 => ⟨⟨rfl, rfl, rfl, hP, i + 1, by omega, by rw [h29, nI_1], ?_⟩, hm _ _ (by omega) h29⟩, fun c2 => ⟨vp_in_nI (by omega) (by decide), fun y28 h28 y29 h29 => ⟨⟨rfl, rfl, rfl, hP, i + 1, by omega, by rw [h29, nI_1], ?_⟩, hm _ _ (by omega) h29⟩⟩⟩⟩
  · have e : i = nT (vm σ0) := by omega
    rw [e]
  · rw [h28, hcS]
    show nI (plo _ S i) + 0 = nI (plo _ S i + (if S.testBit i then (vm σ0 16 i).toNat else 0))
    rw [if_neg c2]
    simp
  · rw [h28, hcS]
    show nI (plo _ S i) + σ0 36 i = nI (plo _ S i + (if S.testBit i then (vm σ0 16 i).toNat else 0))
    rw [if_pos c2, ← nI_add]
    congr 1
    exact z_of (hd.tug (t := i) (by omega)).1
theorem c_Mo_together (l : Launch) (D : va_G) (ad : Nat → Nat) (ci cl : ClassId) : ∀ (sz : Nat) (σ0 : MI) (τ0 : ML) (a1 : Int32), P_Mo_together σ0 τ0 a1 → gMi l D (xw ad ci cl) (xt ci cl) (xa ad) y_Mo_together w_Mo_together rm_Mo_together [.ref (ad 29), .int a1] sz σ0 τ0 (Q_Mo_together σ0 τ0 a1) :=
  k_Mo_together l D ad ci cl P_Mo_together Q_Mo_together I_Mo_together_4 m_Mo_together_4 v_Mo_together_0 v_Mo_together_4
def P_Mo_many (σ : MI) (τ : ML) (a1 : Int32) : Prop := Vd (vm σ) ∧ vp_in a1 (2 ^ nT (vm σ))
def Q_Mo_many (σ : MI) (τ : ML) (a1 r : Int32) (σ' : MI) (τ' : ML) : Prop := σ = σ' ∧ τ = τ' ∧ r = nI (pcn a1.toNatClampNeg)
def I_Mo_many_4 (σ0 : MI) (τ0 : ML) (a1 x1 x2 x3 : Int32) (σ : MI) (τ : ML) : Prop :=
  σ0 = σ ∧ τ0 = τ ∧ a1 = x1 ∧ P_Mo_many σ0 τ0 a1 ∧ ∃ i, i ≤ nT (vm σ0) ∧ x3 = nI i ∧ x2 = nI (dp_sb (fun _ => 1) a1.toNatClampNeg i)
def m_Mo_many_4 (σ0 : MI) (τ0 : ML) (a1 x1 x2 x3 : Int32) (σ : MI) (τ : ML) : Nat := 100 - x3.toNatClampNeg
theorem v_Mo_many_0 (σ0 : MI) (τ0 : ML) (a1 : Int32) (h : P_Mo_many σ0 τ0 a1) : s_Mo_many_0 σ0 τ0 a1 (fun z0 z1 z2 σ9 τ9 => I_Mo_many_4 σ0 τ0 a1 z0 z1 z2 σ9 τ9) (Q_Mo_many σ0 τ0 a1) := by
  unfold s_Mo_many_0
  exact ⟨rfl, rfl, rfl, h, 0, Nat.zero_le _, rfl, rfl⟩
theorem v_Mo_many_4 (σ0 : MI) (τ0 : ML) (a1 : Int32) (x1 : Int32) (x2 : Int32) (x3 : Int32) (σ : MI) (τ : ML) (h : I_Mo_many_4 σ0 τ0 a1 x1 x2 x3 σ τ) : s_Mo_many_4 σ τ x1 x2 x3 (fun z0 z1 z2 σ9 τ9 => I_Mo_many_4 σ0 τ0 a1 z0 z1 z2 σ9 τ9 ∧ m_Mo_many_4 σ0 τ0 a1 z0 z1 z2 σ9 τ9 < m_Mo_many_4 σ0 τ0 a1 x1 x2 x3 σ τ) (Q_Mo_many σ0 τ0 a1) := by
  obtain ⟨rfl, rfl, rfl, hP, i, hi, rfl, rfl⟩ := h
  obtain ⟨hd, hS⟩ := id hP
  have hnt := hd.nTl
  have hp64 : 2 ^ nT (vm σ0) ≤ 2 ^ 6 := Nat.pow_le_pow_right (by decide) hnt.1
  obtain ⟨S, hS2, rfl⟩ := vp_in_of hS (by omega)
  have hcS : (nI S).toNatClampNeg = S := nI_clamp (by omega)
  have e15 := vm_15 hd
  have hci : (nI i).toNatClampNeg = i := nI_clamp (by omega)
  unfold s_Mo_many_4
  rw [e15, nI_leI (by omega) (by omega), zb_bit (by omega) (by omega)]
  refine ⟨fun c => ⟨rfl, rfl, ?_⟩, fun c y19 h19 y20 h20 => ⟨⟨rfl, rfl, rfl, hP, i + 1, by omega, by rw [h20, nI_1], ?_⟩, ?_⟩⟩
  · have e : i = nT (vm σ0) := by omega
    rw [hcS, e]
    unfold pcn
    rw [dp_sb_ext (n := nT (vm σ0)) (m := 7) hS2 (by omega)]
  · rw [h19, hcS, nI_add]
    rfl
  · unfold m_Mo_many_4
    rw [h20, nI_1, nI_clamp (by omega), hci]
    omega
theorem c_Mo_many (l : Launch) (D : va_G) (ad : Nat → Nat) (ci cl : ClassId) : ∀ (sz : Nat) (σ0 : MI) (τ0 : ML) (a1 : Int32), P_Mo_many σ0 τ0 a1 → gMi l D (xw ad ci cl) (xt ci cl) (xa ad) y_Mo_many w_Mo_many rm_Mo_many [.ref (ad 29), .int a1] sz σ0 τ0 (Q_Mo_many σ0 τ0 a1) :=
  k_Mo_many l D ad ci cl P_Mo_many Q_Mo_many I_Mo_many_4 m_Mo_many_4 v_Mo_many_0 v_Mo_many_4
def tgm (σ : MI) : Nat → Nat := fun j => (σ 44 j).toNatClampNeg
def P_Mo_busy (σ : MI) (τ : ML) (a1 : Int32) : Prop := Vd (vm σ) ∧ vp_in a1 7 ∧ ∀ j, j < nJ (vm σ) → vp_in (σ 44 j) 64
def Q_Mo_busy (σ : MI) (τ : ML) (a1 r : Int32) (σ' : MI) (τ' : ML) : Prop := σ = σ' ∧ τ = τ' ∧ r = nI (bsy (vm σ) (tgm σ) a1.toNatClampNeg (nJ (vm σ)))
def I_Mo_busy_4 (σ0 : MI) (τ0 : ML) (a1 x1 x2 x3 : Int32) (σ : MI) (τ : ML) : Prop :=
  σ0 = σ ∧ τ0 = τ ∧ a1 = x1 ∧ P_Mo_busy σ0 τ0 a1 ∧ ∃ i, i ≤ nJ (vm σ0) ∧ x3 = nI i ∧ x2 = nI (bsy (vm σ0) (tgm σ0) a1.toNatClampNeg i)
def m_Mo_busy_4 (σ0 : MI) (τ0 : ML) (a1 x1 x2 x3 : Int32) (σ : MI) (τ : ML) : Nat := 100 - x3.toNatClampNeg
theorem or_0 (x : Int32) : x ||| 0 = x := by simp
theorem v_Mo_busy_0 (σ0 : MI) (τ0 : ML) (a1 : Int32) (h : P_Mo_busy σ0 τ0 a1) : s_Mo_busy_0 σ0 τ0 a1 (fun z0 z1 z2 σ9 τ9 => I_Mo_busy_4 σ0 τ0 a1 z0 z1 z2 σ9 τ9) (Q_Mo_busy σ0 τ0 a1) := by
  unfold s_Mo_busy_0
  exact ⟨rfl, rfl, rfl, h, 0, Nat.zero_le _, rfl, rfl⟩
theorem v_Mo_busy_4 (σ0 : MI) (τ0 : ML) (a1 : Int32) (x1 : Int32) (x2 : Int32) (x3 : Int32) (σ : MI) (τ : ML) (h : I_Mo_busy_4 σ0 τ0 a1 x1 x2 x3 σ τ) : s_Mo_busy_4 σ τ x1 x2 x3 (fun z0 z1 z2 σ9 τ9 => I_Mo_busy_4 σ0 τ0 a1 z0 z1 z2 σ9 τ9 ∧ m_Mo_busy_4 σ0 τ0 a1 z0 z1 z2 σ9 τ9 < m_Mo_busy_4 σ0 τ0 a1 x1 x2 x3 σ τ) (Q_Mo_busy σ0 τ0 a1) := by
  obtain ⟨rfl, rfl, rfl, hP, i, hi, rfl, rfl⟩ := h
  obtain ⟨hd, h1, ht⟩ := id hP
  obtain ⟨j, hj, rfl⟩ := vp_in_of h1 (by decide)
  have hn := hd.nJl
  have e8 := vm_8 hd
  have hcj : (nI j).toNatClampNeg = j := nI_clamp (by omega)
  have hci : (nI i).toNatClampNeg = i := nI_clamp (by omega)
  have hm : ∀ (u v y : Int32), i < nJ (vm σ0) → y = nI i + 1 → m_Mo_busy_4 σ0 τ0 (nI j) (nI j) u y σ0 τ0 < m_Mo_busy_4 σ0 τ0 (nI j) (nI j) v (nI i) σ0 τ0 := by
    intro u v y hl hy
    unfold m_Mo_busy_4
    rw [hy, nI_1, nI_clamp (by omega), hci]
    omega
  have hov : (vm σ0 11 i < vm σ0 12 j ∧ vm σ0 11 j < vm σ0 12 i) ↔ (¬ σ0 40 j ≤ σ0 39 i ∧ ¬ σ0 40 i ≤ σ0 39 j) := by
    rw [z_le, z_le]
    show ((σ0 39 i).toInt < (σ0 40 j).toInt ∧ (σ0 39 j).toInt < (σ0 40 i).toInt) ↔ _
    omega
  have estep : bsy (vm σ0) (tgm σ0) j (i + 1) = if vm σ0 11 i < vm σ0 12 j ∧ vm σ0 11 j < vm σ0 12 i then bsy (vm σ0) (tgm σ0) j i ||| tgm σ0 i else bsy (vm σ0) (tgm σ0) j i := rfl
  unfold s_Mo_busy_4
  rw [e8, nI_leI (by omega) (by omega), hci, hcj]
  refine ⟨fun c => ⟨rfl, rfl, ?_⟩, fun c => ⟨vp_in_nI (by omega) (by decide), h1, fun c2 y54 h54 y55 h55 => ⟨⟨rfl, rfl, rfl, hP, i + 1, by omega, by rw [h55, nI_1], ?_⟩, hm _ _ _ (by omega) h55⟩, fun c2 => ⟨h1, vp_in_nI (by omega) (by decide), fun c3 y54 h54 y55 h55 => ⟨⟨rfl, rfl, rfl, hP, i + 1, by omega, by rw [h55, nI_1], ?_⟩, hm _ _ _ (by omega) h55⟩, fun c3 => ⟨vp_in_nI (by omega) (by decide), fun y54 h54 y55 h55 => ⟨⟨rfl, rfl, rfl, hP, i + 1, by omega, by rw [h55, nI_1], ?_⟩, hm _ _ _ (by omega) h55⟩⟩⟩⟩⟩
  · have e : i = nJ (vm σ0) := by omega
    rw [hcj, e]
  · rw [h54, or_0, hcj, estep, if_neg (fun z => (hov.mp z).1 c2)]
  · rw [h54, or_0, hcj, estep, if_neg (fun z => (hov.mp z).2 c3)]
  · have hti : σ0 44 i = nI (tgm σ0 i) := by
      obtain ⟨x, hx, e⟩ := vp_in_of (ht i (by omega)) (by decide)
      unfold tgm
      rw [e, nI_clamp (by omega)]
    rw [h54, hti, hcj, estep, if_pos (hov.mpr ⟨c2, c3⟩), zb_or]
theorem c_Mo_busy (l : Launch) (D : va_G) (ad : Nat → Nat) (ci cl : ClassId) : ∀ (sz : Nat) (σ0 : MI) (τ0 : ML) (a1 : Int32), P_Mo_busy σ0 τ0 a1 → gMi l D (xw ad ci cl) (xt ci cl) (xa ad) y_Mo_busy w_Mo_busy rm_Mo_busy [.ref (ad 29), .int a1] sz σ0 τ0 (Q_Mo_busy σ0 τ0 a1) :=
  k_Mo_busy l D ad ci cl P_Mo_busy Q_Mo_busy I_Mo_busy_4 m_Mo_busy_4 v_Mo_busy_0 v_Mo_busy_4
