def P_Tugs_choose (σ : MI) (τ : ML) (a1 a2 : Int32) : Prop := Vd (vx σ) ∧ 0 ≤ a2.toInt ∧ ∃ used, used < 64 ∧ a1 = nI ((2 ^ nT (vx σ) - 1) ^^^ ((2 ^ nT (vx σ) - 1) &&& used))
def Q_Tugs_choose (σ : MI) (τ : ML) (a1 a2 r : Int32) (σ' : MI) (τ' : ML) : Prop := σ = σ' ∧ τ = τ' ∧ ∀ used, used < 64 → a1 = nI ((2 ^ nT (vx σ) - 1) ^^^ ((2 ^ nT (vx σ) - 1) &&& used)) → ∃ f, r = nI f ∧ bsf (vx σ) used a2.toInt.toNat (2 ^ nT (vx σ)) f
def I_Tugs_choose_5 (σ0 : MI) (τ0 : ML) (a1 a2 x1 x2 x3 x4 : Int32) (σ : MI) (τ : ML) : Prop :=
  σ0 = σ ∧ τ0 = τ ∧ a1 = x1 ∧ a2 = x2 ∧ P_Tugs_choose σ0 τ0 a1 a2 ∧ ∃ m f, 0 < m ∧ m ≤ 2 ^ nT (vx σ0) ∧ x4 = nI m ∧ x3 = nI f ∧ f < 64 ∧ ∀ used, used < 64 → a1 = nI ((2 ^ nT (vx σ0) - 1) ^^^ ((2 ^ nT (vx σ0) - 1) &&& used)) → bsf (vx σ0) used a2.toInt.toNat m f
def m_Tugs_choose_5 (σ0 : MI) (τ0 : ML) (a1 a2 x1 x2 x3 x4 : Int32) (σ : MI) (τ : ML) : Nat := 1000 - x4.toNatClampNeg
/-- the sets of tugs that are free -/
theorem fr_bit {n used j : Nat} : ((2 ^ n - 1) ^^^ ((2 ^ n - 1) &&& used)).testBit j = (decide (j < n) && !used.testBit j) := by
  rw [Nat.testBit_xor, Nat.testBit_and, Nat.testBit_two_pow_sub_one]
  cases decide (j < n) <;> cases used.testBit j <;> rfl
theorem fr_sub {n used m : Nat} (hm : m < 2 ^ n) : m &&& ((2 ^ n - 1) ^^^ ((2 ^ n - 1) &&& used)) = m ↔ m &&& used = 0 := by
  constructor
  · intro h
    apply Nat.eq_of_testBit_eq
    intro j
    have := congrArg (fun z => z.testBit j) h
    simp only [Nat.testBit_and, fr_bit] at this
    rw [Nat.zero_testBit, Nat.testBit_and]
    cases h1 : m.testBit j <;> cases h2 : used.testBit j <;> simp [h1, h2] at this ⊢
  · intro h
    apply Nat.eq_of_testBit_eq
    intro j
    have := congrArg (fun z => z.testBit j) h
    simp only [Nat.testBit_and, Nat.zero_testBit] at this
    rw [Nat.testBit_and, fr_bit]
    cases h1 : m.testBit j
    · rfl
    · have hj : j < n := by
        rcases Nat.lt_or_ge j n with z | z
        · exact z
        · rw [Nat.testBit_lt_two_pow (Nat.lt_of_lt_of_le hm (Nat.pow_le_pow_right (by decide) z))] at h1
          cases h1
      rw [h1] at this
      simp only [Bool.true_and] at this
      simp [hj, this]
theorem bsf_up {d : Dt} {used need n : Nat} {f : Nat} {m : Nat} (hm : m ≤ 2 ^ n) (hf : (2 ^ n - 1) ^^^ ((2 ^ n - 1) &&& used) < m) (h : bsf d used need m f) : ∀ k, m ≤ k → k ≤ 2 ^ n → bsf d used need k f := by
  intro k
  induction k with
  | zero => intro h1 _; omega
  | succ k ih =>
    intro h1 h2
    by_cases e : m = k + 1
    · rw [← e]; exact h
    · refine ⟨f, ih (by omega) (by omega), Or.inr ⟨fun z => ?_, rfl⟩⟩
      have := (fr_sub (n := n) (used := used) (m := k) (by omega)).mpr z.2.1
      have hle : k ≤ (2 ^ n - 1) ^^^ ((2 ^ n - 1) &&& used) := by
        have := Nat.and_le_right (n := k) (m := (2 ^ n - 1) ^^^ ((2 ^ n - 1) &&& used))
        omega
      omega
theorem v_Tugs_choose_0 (σ0 : MI) (τ0 : ML) (a1 : Int32) (a2 : Int32) (h : P_Tugs_choose σ0 τ0 a1 a2) : s_Tugs_choose_0 P_Tugs_pullOf Q_Tugs_pullOf P_Tugs_isBetter Q_Tugs_isBetter σ0 τ0 a1 a2 (fun z0 z1 z2 z3 σ9 τ9 => I_Tugs_choose_5 σ0 τ0 a1 a2 z0 z1 z2 z3 σ9 τ9) (Q_Tugs_choose σ0 τ0 a1 a2) := by
  unfold s_Tugs_choose_0
  refine ⟨rfl, rfl, rfl, rfl, h, 1, 0, by decide, Nat.one_le_two_pow, rfl, rfl, by decide, fun used _ _ => ⟨0, rfl, Or.inr ⟨fun z => z.1 rfl, rfl⟩⟩⟩
theorem v_Tugs_choose_5 (σ0 : MI) (τ0 : ML) (a1 : Int32) (a2 : Int32) (x1 : Int32) (x2 : Int32) (x3 : Int32) (x4 : Int32) (σ : MI) (τ : ML) (h : I_Tugs_choose_5 σ0 τ0 a1 a2 x1 x2 x3 x4 σ τ) : s_Tugs_choose_5 P_Tugs_pullOf Q_Tugs_pullOf P_Tugs_isBetter Q_Tugs_isBetter σ τ x1 x2 x3 x4 (fun z0 z1 z2 z3 σ9 τ9 => I_Tugs_choose_5 σ0 τ0 a1 a2 z0 z1 z2 z3 σ9 τ9 ∧ m_Tugs_choose_5 σ0 τ0 a1 a2 z0 z1 z2 z3 σ9 τ9 < m_Tugs_choose_5 σ0 τ0 a1 a2 x1 x2 x3 x4 σ τ) (Q_Tugs_choose σ0 τ0 a1 a2) := by
  obtain ⟨rfl, rfl, rfl, rfl, hP, m, f, hm0, hm, rfl, rfl, hf, hb⟩ := h
  obtain ⟨hd, h2, used, hu, rfl⟩ := id hP
  have hnt := hd.nTl
  have hp64 : 2 ^ nT (vx σ0) ≤ 2 ^ 6 := Nat.pow_le_pow_right (by decide) hnt.1
  have hfr : (2 ^ nT (vx σ0) - 1) ^^^ ((2 ^ nT (vx σ0) - 1) &&& used) < 2 ^ 6 := Nat.xor_lt_two_pow (by omega) (Nat.lt_of_le_of_lt Nat.and_le_left (by omega))
  have hcm : (nI m).toNatClampNeg = m := nI_clamp (by omega)
  have hcf : (nI f).toNatClampNeg = f := nI_clamp (by omega)
  have key : ∀ used', used' < 64 → nI ((2 ^ nT (vx σ0) - 1) ^^^ ((2 ^ nT (vx σ0) - 1) &&& used)) = nI ((2 ^ nT (vx σ0) - 1) ^^^ ((2 ^ nT (vx σ0) - 1) &&& used')) → ∀ m', m' < 2 ^ nT (vx σ0) → (m' &&& used' = 0 ↔ m' &&& used = 0) := by
    intro used' hu' e m' hm'
    have hfr' : (2 ^ nT (vx σ0) - 1) ^^^ ((2 ^ nT (vx σ0) - 1) &&& used') < 2 ^ 6 := Nat.xor_lt_two_pow (by omega) (Nat.lt_of_le_of_lt Nat.and_le_left (by omega))
    rw [nI_eq (by omega) (by omega)] at e
    rw [← fr_sub hm', ← fr_sub hm', e]
  have hmm : ∀ (u y : Int32), m < 2 ^ nT (vx σ0) → y = nI m + 1 → m_Tugs_choose_5 σ0 τ0 (nI ((2 ^ nT (vx σ0) - 1) ^^^ ((2 ^ nT (vx σ0) - 1) &&& used))) a2 (nI ((2 ^ nT (vx σ0) - 1) ^^^ ((2 ^ nT (vx σ0) - 1) &&& used))) a2 u y σ0 τ0 < m_Tugs_choose_5 σ0 τ0 (nI ((2 ^ nT (vx σ0) - 1) ^^^ ((2 ^ nT (vx σ0) - 1) &&& used))) a2 (nI ((2 ^ nT (vx σ0) - 1) ^^^ ((2 ^ nT (vx σ0) - 1) &&& used))) a2 (nI f) (nI m) σ0 τ0 := by
    intro u y hl hy
    unfold m_Tugs_choose_5
    rw [hy, nI_1, nI_clamp (by omega), hcm]
    omega
  unfold s_Tugs_choose_5
  rw [nI_ltI (by omega) (by omega)]
  refine ⟨fun c => ⟨rfl, rfl, fun used' hu' e => ⟨f, rfl, ?_⟩⟩, fun c => ?_⟩
  · have hb' := hb used' hu' e
    have hfr' : (2 ^ nT (vx σ0) - 1) ^^^ ((2 ^ nT (vx σ0) - 1) &&& used') < 2 ^ 6 := Nat.xor_lt_two_pow (by omega) (Nat.lt_of_le_of_lt Nat.and_le_left (by omega))
    rw [nI_eq (by omega) (by omega)] at e
    exact bsf_up (n := nT (vx σ0)) hm (by rw [← e]; exact c) hb' _ hm (Nat.le_refl _)
  · have hfn : (2 ^ nT (vx σ0) - 1) ^^^ ((2 ^ nT (vx σ0) - 1) &&& used) < 2 ^ nT (vx σ0) := Nat.xor_lt_two_pow (by omega) (Nat.lt_of_le_of_lt Nat.and_le_left (by omega))
    have hml : m < 2 ^ nT (vx σ0) := by omega
    have hend : ∀ (u y : Int32) (f' : Nat), y = nI m + 1 → u = nI f' → f' < 64 → (∀ used', used' < 64 → (m &&& used' = 0 ↔ m &&& used = 0) → bsf (vx σ0) used' a2.toInt.toNat m f → bsf (vx σ0) used' a2.toInt.toNat (m + 1) f') → I_Tugs_choose_5 σ0 τ0 (nI ((2 ^ nT (vx σ0) - 1) ^^^ ((2 ^ nT (vx σ0) - 1) &&& used))) a2 (nI ((2 ^ nT (vx σ0) - 1) ^^^ ((2 ^ nT (vx σ0) - 1) &&& used))) a2 u y σ0 τ0 := by
      intro u y f' hy hu9 hf9 hz
      exact ⟨rfl, rfl, rfl, rfl, hP, m + 1, f', by omega, by omega, by rw [hy, nI_1], hu9, hf9, fun used' hu' e => hz used' hu' (key used' hu' e m hml) (hb used' hu' e)⟩
    have l1 := plo_le hd m (nT (vx σ0)) hnt.1
    rw [zb_and, nI_eq (by have := Nat.and_le_left (n := m) (m := (2 ^ nT (vx σ0) - 1) ^^^ ((2 ^ nT (vx σ0) - 1) &&& used)); omega) (by omega), fr_sub hml]
    refine ⟨fun c2 y hy => ⟨hend _ _ f hy rfl hf (fun used' hu' e hz => ⟨f, hz, Or.inr ⟨fun z => c2 (e.mp z.2.1), rfl⟩⟩), hmm _ _ hml hy⟩, fun c2 => ⟨⟨hd, vp_in_nI (by omega) (by decide)⟩, fun r s t hq => ?_⟩⟩
    obtain ⟨rfl, rfl, rfl⟩ := hq
    rw [hcm, z_lt, z_nI (by omega)]
    refine ⟨fun c3 y hy => ⟨hend _ _ f hy rfl hf (fun used' hu' e hz => ⟨f, hz, Or.inr ⟨fun z => ?_, rfl⟩⟩), hmm _ _ hml hy⟩, fun c3 => ⟨fun c4 y hy => ⟨hend _ _ m hy rfl (by omega) (fun used' hu' e hz => ⟨f, hz, Or.inl ⟨by omega, e.mpr c2, by omega, Or.inl ?_, rfl⟩⟩), hmm _ _ hml hy⟩, fun c4 => ⟨⟨hd, vp_in_nI (by omega) (by decide), vp_in_nI (by omega) (by decide)⟩, fun r38 s38 t38 hq => ?_⟩⟩⟩
    · have := z.2.2.1
      omega
    · rw [z_eq, z_nI (by omega), zc_0] at c4
      omega
    · obtain ⟨rfl, rfl, hr⟩ := hq
      rw [hcm, hcf] at hr
      have hf0 : f ≠ 0 := by
        rintro rfl
        exact c4 rfl
      refine ⟨fun c5 y hy => ⟨hend _ _ f hy rfl hf (fun used' hu' e hz => ⟨f, hz, Or.inr ⟨fun z => ?_, rfl⟩⟩), hmm _ _ hml hy⟩, fun c5 y hy => ⟨hend _ _ m hy rfl (by omega) (fun used' hu' e hz => ⟨f, hz, Or.inl ⟨by omega, e.mpr c2, by omega, Or.inr (rb_1 hr c5), rfl⟩⟩), hmm _ _ hml hy⟩⟩
      rcases z.2.2.2 with q | q
      · exact hf0 q
      · exact rb_0 hr c5 q
theorem c_Tugs_choose (l : Launch) (D : va_G) (ad : Nat → Nat) (ci cl : ClassId) : ∀ (sz : Nat) (σ0 : MI) (τ0 : ML) (a1 : Int32) (a2 : Int32), P_Tugs_choose σ0 τ0 a1 a2 → gMi l D (xw ad ci cl) (xt ci cl) (xa ad) y_Tugs_choose w_Tugs_choose rm_Tugs_choose [.ref (ad 15), .int a1, .int a2] sz σ0 τ0 (Q_Tugs_choose σ0 τ0 a1 a2) :=
  k_Tugs_choose l D ad ci cl P_Tugs_choose Q_Tugs_choose P_Tugs_pullOf Q_Tugs_pullOf P_Tugs_isBetter Q_Tugs_isBetter (c_Tugs_pullOf l D ad ci cl) (c_Tugs_isBetter l D ad ci cl) I_Tugs_choose_5 m_Tugs_choose_5 v_Tugs_choose_0 v_Tugs_choose_5
