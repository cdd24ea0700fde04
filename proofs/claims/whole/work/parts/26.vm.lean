def P_PT_travels (σ : MI) (τ : ML) (a1 a2 a3 : Int32) : Prop := True
def tvok (a1 a2 a3 : Int32) : Prop := (0 ≤ a1.toInt ∧ a1.toInt ≤ 4) ∧ (0 ≤ a2.toInt ∧ a2.toInt ≤ 4) ∧ a1 ≠ a2 ∧ (0 ≤ a3.toInt ∧ a3.toInt ≤ 300)
def Q_PT_travels (σ : MI) (τ : ML) (a1 a2 a3 r : Int32) (σ' : MI) (τ' : ML) : Prop := τ = τ' ∧ ((tvok a1 a2 a3 ∧ r = 1 ∧ σ' = st2 (st2 (st2 σ 22 0 0) 18 (a1.toInt * 5 + a2.toInt).toNat a3) 18 (a2.toInt * 5 + a1.toInt).toNat a3) ∨ (¬ tvok a1 a2 a3 ∧ r = 0 ∧ σ = σ'))
theorem v_PT_travels_0 (σ0 : MI) (τ0 : ML) (a1 : Int32) (a2 : Int32) (a3 : Int32) (h : P_PT_travels σ0 τ0 a1 a2 a3) : s_PT_travels_0 P_PT_isPlace Q_PT_isPlace P_PT_isWithin Q_PT_isWithin P_Ways_tell Q_Ways_tell σ0 τ0 a1 a2 a3 (Q_PT_travels σ0 τ0 a1 a2 a3) := by
  unfold s_PT_travels_0
  refine ⟨trivial, fun r1 s1 t1 q => ?_⟩
  obtain ⟨rfl, rfl, h1⟩ := q
  refine ⟨fun c => ⟨by decide, rfl, Or.inr ⟨fun z => rb_0 h1 c z.1, rfl, rfl⟩⟩, fun c => ⟨trivial, fun r8 s8 t8 q => ?_⟩⟩
  obtain ⟨rfl, rfl, h2⟩ := q
  refine ⟨fun c2 => ⟨by decide, rfl, Or.inr ⟨fun z => rb_0 h2 c2 z.2.1, rfl, rfl⟩⟩, fun c2 => ⟨fun c3 => ⟨by decide, rfl, Or.inr ⟨fun z => z.2.2.1 c3, rfl, rfl⟩⟩, fun c3 => ⟨trivial, fun r24 s24 t24 q => ?_⟩⟩⟩
  obtain ⟨rfl, rfl, h3⟩ := q
  simp only [z_lt, z_le, zc_0, zc_1, zc_2, zc_3, zc_4, zc_5, zc_6, zc_7, zc_10, zc_100, zc_300, zc_360, zc_600, zc_2880, zc_1000000, zc_m1] at h3
  refine ⟨fun c4 s37 h37 => ⟨⟨rb_1 h1 c, rb_1 h2 c2⟩, fun s47 t47 q => ?_⟩, fun c4 => ⟨by decide, rfl, Or.inr ⟨fun z => rb_0 h3 c4 z.2.2.2, rfl, rfl⟩⟩⟩
  obtain ⟨rfl, e⟩ := q
  exact ⟨by decide, rfl, Or.inl ⟨⟨rb_1 h1 c, rb_1 h2 c2, c3, rb_1 h3 c4⟩, rfl, by rw [e, h37]⟩⟩
theorem c_PT_travels (l : Launch) (D : va_G) (ad : Nat → Nat) (ci cl : ClassId) : ∀ (sz : Nat) (σ0 : MI) (τ0 : ML) (a1 : Int32) (a2 : Int32) (a3 : Int32), P_PT_travels σ0 τ0 a1 a2 a3 → gMi l D (xw ad ci cl) (xt ci cl) (xa ad) y_PT_travels w_PT_travels rm_PT_travels [.ref (ad 0), .int a1, .int a2, .int a3] sz σ0 τ0 (Q_PT_travels σ0 τ0 a1 a2 a3) :=
  k_PT_travels l D ad ci cl P_PT_travels Q_PT_travels P_PT_isPlace Q_PT_isPlace P_PT_isWithin Q_PT_isWithin P_Ways_tell Q_Ways_tell (c_PT_isPlace l D ad ci cl) (c_PT_isWithin l D ad ci cl) (c_Ways_tell l D ad ci cl) v_PT_travels_0
def P_PT_rest (σ : MI) (τ : ML) (a1 : Int32) : Prop := True
def Q_PT_rest (σ : MI) (τ : ML) (a1 r : Int32) (σ' : MI) (τ' : ML) : Prop := τ = τ' ∧ (((0 ≤ a1.toInt ∧ a1.toInt ≤ 300) ∧ r = 1 ∧ σ' = st2 (st2 σ 22 0 0) 17 0 a1) ∨ (¬ (0 ≤ a1.toInt ∧ a1.toInt ≤ 300) ∧ r = 0 ∧ σ = σ'))
theorem v_PT_rest_0 (σ0 : MI) (τ0 : ML) (a1 : Int32) (h : P_PT_rest σ0 τ0 a1) : s_PT_rest_0 P_PT_isWithin Q_PT_isWithin σ0 τ0 a1 (Q_PT_rest σ0 τ0 a1) := by
  unfold s_PT_rest_0
  refine ⟨trivial, fun r1 s1 t1 q => ?_⟩
  obtain ⟨rfl, rfl, h1⟩ := q
  simp only [z_lt, z_le, zc_0, zc_1, zc_2, zc_3, zc_4, zc_5, zc_6, zc_7, zc_10, zc_100, zc_300, zc_360, zc_600, zc_2880, zc_1000000, zc_m1] at h1
  exact ⟨fun c s18 h18 s26 h26 => ⟨by decide, rfl, Or.inl ⟨rb_1 h1 c, rfl, by rw [h26, h18]⟩⟩, fun c => ⟨by decide, rfl, Or.inr ⟨rb_0 h1 c, rfl, rfl⟩⟩⟩
theorem c_PT_rest (l : Launch) (D : va_G) (ad : Nat → Nat) (ci cl : ClassId) : ∀ (sz : Nat) (σ0 : MI) (τ0 : ML) (a1 : Int32), P_PT_rest σ0 τ0 a1 → gMi l D (xw ad ci cl) (xt ci cl) (xa ad) y_PT_rest w_PT_rest rm_PT_rest [.ref (ad 0), .int a1] sz σ0 τ0 (Q_PT_rest σ0 τ0 a1) :=
  k_PT_rest l D ad ci cl P_PT_rest Q_PT_rest P_PT_isWithin Q_PT_isWithin (c_PT_isWithin l D ad ci cl) v_PT_rest_0
def P_PT_rule (σ : MI) (τ : ML) (a1 a2 : Int32) : Prop := Vd (vx σ)
def ruok (σ : MI) (a1 a2 : Int32) : Prop := (0 ≤ a1.toInt ∧ a1.toInt < (σ 1 0).toInt) ∧ (0 ≤ a2.toInt ∧ a2.toInt ≤ 4)
def Q_PT_rule (σ : MI) (τ : ML) (a1 a2 r : Int32) (σ' : MI) (τ' : ML) : Prop := τ = τ' ∧ ((ruok σ a1 a2 ∧ r = 1 ∧ σ' = st2 (st2 σ 22 0 0) 6 a1.toNatClampNeg a2) ∨ (¬ ruok σ a1 a2 ∧ r = 0 ∧ σ = σ'))
theorem v_PT_rule_0 (σ0 : MI) (τ0 : ML) (a1 : Int32) (a2 : Int32) (h : P_PT_rule σ0 τ0 a1 a2) : s_PT_rule_0 P_PT_isPerson Q_PT_isPerson P_PT_isWithin Q_PT_isWithin σ0 τ0 a1 a2 (Q_PT_rule σ0 τ0 a1 a2) := by
  unfold s_PT_rule_0
  refine ⟨h, fun r1 s1 t1 q => ?_⟩
  obtain ⟨rfl, rfl, h1⟩ := q
  refine ⟨fun c => ⟨by decide, rfl, Or.inr ⟨fun z => rb_0 h1 c z.1, rfl, rfl⟩⟩, fun c => ⟨trivial, fun r8 s8 t8 q => ?_⟩⟩
  obtain ⟨rfl, rfl, h2⟩ := q
  simp only [z_lt, z_le, zc_0, zc_1, zc_2, zc_3, zc_4, zc_5, zc_6, zc_7, zc_10, zc_100, zc_300, zc_360, zc_600, zc_2880, zc_1000000, zc_m1] at h2
  have hp := rb_1 h1 c
  have h4 := h.1
  simp only [vx] at h4
  exact ⟨fun c2 s24 h24 => ⟨z_in.mpr ⟨hp.1, by omega⟩, fun s36 h36 => ⟨by decide, rfl, Or.inl ⟨⟨hp, rb_1 h2 c2⟩, rfl, by rw [h36, h24]⟩⟩⟩, fun c2 => ⟨by decide, rfl, Or.inr ⟨fun z => rb_0 h2 c2 z.2, rfl, rfl⟩⟩⟩
theorem c_PT_rule (l : Launch) (D : va_G) (ad : Nat → Nat) (ci cl : ClassId) : ∀ (sz : Nat) (σ0 : MI) (τ0 : ML) (a1 : Int32) (a2 : Int32), P_PT_rule σ0 τ0 a1 a2 → gMi l D (xw ad ci cl) (xt ci cl) (xa ad) y_PT_rule w_PT_rule rm_PT_rule [.ref (ad 0), .int a1, .int a2] sz σ0 τ0 (Q_PT_rule σ0 τ0 a1 a2) :=
  k_PT_rule l D ad ci cl P_PT_rule Q_PT_rule P_PT_isPerson Q_PT_isPerson P_PT_isWithin Q_PT_isWithin (c_PT_isPerson l D ad ci cl) (c_PT_isWithin l D ad ci cl) v_PT_rule_0
def P_PT_assign (σ : MI) (τ : ML) : Prop := Vd (vx σ)
def Q_PT_assign (σ : MI) (τ : ML) (r : Int32) (σ' : MI) (τ' : ML) : Prop := Q_PT_makePlan σ τ σ' τ' ∧ ((σ' 22 2 = 0 ∧ r = -1) ∨ (σ' 22 2 ≠ 0 ∧ r = σ' 22 3))
theorem v_PT_assign_0 (σ0 : MI) (τ0 : ML) (h : P_PT_assign σ0 τ0) : s_PT_assign_0 P_PT_makePlan Q_PT_makePlan σ0 τ0 (Q_PT_assign σ0 τ0) := by
  unfold s_PT_assign_0
  exact ⟨h, fun s t q => ⟨fun c => ⟨q, Or.inr ⟨c, rfl⟩⟩, fun c => ⟨q, Or.inl ⟨c, rfl⟩⟩⟩⟩
theorem c_PT_assign (l : Launch) (D : va_G) (ad : Nat → Nat) (ci cl : ClassId) : ∀ (sz : Nat) (σ0 : MI) (τ0 : ML), P_PT_assign σ0 τ0 → gMi l D (xw ad ci cl) (xt ci cl) (xa ad) y_PT_assign w_PT_assign rm_PT_assign [.ref (ad 0)] sz σ0 τ0 (Q_PT_assign σ0 τ0) :=
  k_PT_assign l D ad ci cl P_PT_assign Q_PT_assign P_PT_makePlan Q_PT_makePlan (c_PT_makePlan l D ad ci cl) v_PT_assign_0
def P_PT_count (σ : MI) (τ : ML) (a1 : Int32) : Prop := Vd (vx σ)
/-- the answers of count, out of what it looks at -/
def cnf (np nt nj made given barred : Int32) (fl : Nat → Int32) (a1 r : Int32) : Prop :=
  (a1 = 0 → r = np) ∧ (a1 = 1 → r = nt) ∧ (a1 = 2 → r = nj) ∧ (a1 = 3 → (made = 0 → r = 0) ∧ (made ≠ 0 → r = 1)) ∧ (a1 = 4 → (made = 0 → r = -1) ∧ (made ≠ 0 → r = given)) ∧ (a1 = 5 → (made = 0 → r = -1) ∧ (made ≠ 0 → r = barred)) ∧
  (10 ≤ a1.toInt → (a1.toInt - 10 < np.toInt → r = fl (a1.toInt - 10).toNat) ∧ (¬ a1.toInt - 10 < np.toInt → r = -1)) ∧ (a1.toInt < 10 → a1 ≠ 0 → a1 ≠ 1 → a1 ≠ 2 → a1 ≠ 3 → a1 ≠ 4 → a1 ≠ 5 → r = -1)
def Q_PT_count (σ : MI) (τ : ML) (a1 r : Int32) (σ' : MI) (τ' : ML) : Prop := σ = σ' ∧ τ = τ' ∧ cnf (σ 1 0) (σ 15 0) (σ 8 0) (σ 22 0) (σ 22 2) (σ 22 1) (σ 7) a1 r
theorem cnf_case {np nt nj made given barred : Int32} {fl : Nat → Int32} {a1 r : Int32} (k : Int32) (h : a1 = k) (hr : cnf np nt nj made given barred fl k r) : cnf np nt nj made given barred fl a1 r := by
  rw [h]; exact hr
theorem v_PT_count_0 (σ0 : MI) (τ0 : ML) (a1 : Int32) (h : P_PT_count σ0 τ0 a1) : s_PT_count_0 P_PT_isPerson Q_PT_isPerson σ0 τ0 a1 (Q_PT_count σ0 τ0 a1) := by
  unfold s_PT_count_0
  have h4 := h.1
  simp only [vx] at h4
  refine ⟨fun c => ⟨fun e => ⟨rfl, rfl, cnf_case 0 e ?_⟩, fun e0 => ⟨fun e => ⟨rfl, rfl, cnf_case 1 e ?_⟩, fun e1 => ⟨fun e => ⟨rfl, rfl, cnf_case 2 e ?_⟩, fun e2 => ⟨fun e => ⟨fun m => ⟨rfl, rfl, cnf_case 3 e ?_⟩, fun m => ⟨rfl, rfl, cnf_case 3 e ?_⟩⟩, fun e3 => ⟨fun e => ⟨fun m => ⟨rfl, rfl, cnf_case 4 e ?_⟩, fun m => ⟨rfl, rfl, cnf_case 4 e ?_⟩⟩, fun e4 => ⟨fun e => ⟨fun m => ⟨rfl, rfl, cnf_case 5 e ?_⟩, fun m => ⟨rfl, rfl, cnf_case 5 e ?_⟩⟩, fun e5 => ⟨rfl, rfl, ?_⟩⟩⟩⟩⟩⟩⟩, fun c y hy => ⟨h, fun r13 s13 t13 q => ?_⟩⟩
  · exact ⟨fun _ => rfl, fun z => absurd z (by decide), fun z => absurd z (by decide), fun z => absurd z (by decide), fun z => absurd z (by decide), fun z => absurd z (by decide), fun z => absurd z (by decide), fun _ z => absurd rfl z⟩
  · exact ⟨fun z => absurd z (by decide), fun _ => rfl, fun z => absurd z (by decide), fun z => absurd z (by decide), fun z => absurd z (by decide), fun z => absurd z (by decide), fun z => absurd z (by decide), fun _ _ z => absurd rfl z⟩
  · exact ⟨fun z => absurd z (by decide), fun z => absurd z (by decide), fun _ => rfl, fun z => absurd z (by decide), fun z => absurd z (by decide), fun z => absurd z (by decide), fun z => absurd z (by decide), fun _ _ _ z => absurd rfl z⟩
  · exact ⟨fun z => absurd z (by decide), fun z => absurd z (by decide), fun z => absurd z (by decide), fun _ => ⟨fun _ => rfl, fun z => absurd m z⟩, fun z => absurd z (by decide), fun z => absurd z (by decide), fun z => absurd z (by decide), fun _ _ _ _ z => absurd rfl z⟩
  · exact ⟨fun z => absurd z (by decide), fun z => absurd z (by decide), fun z => absurd z (by decide), fun _ => ⟨fun z => absurd z m, fun _ => rfl⟩, fun z => absurd z (by decide), fun z => absurd z (by decide), fun z => absurd z (by decide), fun _ _ _ _ z => absurd rfl z⟩
  · exact ⟨fun z => absurd z (by decide), fun z => absurd z (by decide), fun z => absurd z (by decide), fun z => absurd z (by decide), fun _ => ⟨fun _ => rfl, fun z => absurd m z⟩, fun z => absurd z (by decide), fun z => absurd z (by decide), fun _ _ _ _ _ z => absurd rfl z⟩
  · exact ⟨fun z => absurd z (by decide), fun z => absurd z (by decide), fun z => absurd z (by decide), fun z => absurd z (by decide), fun _ => ⟨fun z => absurd z m, fun _ => rfl⟩, fun z => absurd z (by decide), fun z => absurd z (by decide), fun _ _ _ _ _ z => absurd rfl z⟩
  · exact ⟨fun z => absurd z (by decide), fun z => absurd z (by decide), fun z => absurd z (by decide), fun z => absurd z (by decide), fun z => absurd z (by decide), fun _ => ⟨fun _ => rfl, fun z => absurd m z⟩, fun z => absurd z (by decide), fun _ _ _ _ _ _ z => absurd rfl z⟩
  · exact ⟨fun z => absurd z (by decide), fun z => absurd z (by decide), fun z => absurd z (by decide), fun z => absurd z (by decide), fun z => absurd z (by decide), fun _ => ⟨fun z => absurd z m, fun _ => rfl⟩, fun z => absurd z (by decide), fun _ _ _ _ _ _ z => absurd rfl z⟩
  · rw [z_lt, zc_10] at c
    exact ⟨fun z => absurd z e0, fun z => absurd z e1, fun z => absurd z e2, fun z => absurd z e3, fun z => absurd z e4, fun z => absurd z e5, fun z => absurd c (by omega), fun _ _ _ _ _ _ _ => rfl⟩
  · obtain ⟨rfl, rfl, hr⟩ := q
    rw [z_lt, zc_10] at c
    have ey : y.toInt = a1.toInt - 10 := by
      have := z_rng a1
      rw [hy, z_sub (by rw [zc_10]; omega) (by rw [zc_10]; omega), zc_10]
    have hk : ∀ k : Int32, k.toInt < 10 → ¬ a1 = k := by
      rintro k hk rfl
      omega
    rw [ey] at hr
    refine ⟨fun c2 => ⟨rfl, rfl, ?_⟩, fun c2 => ⟨z_in.mpr (by have := rb_1 hr c2; omega), rfl, rfl, ?_⟩⟩
    · have := rb_0 hr c2
      exact ⟨fun z => absurd z (hk 0 (by decide)), fun z => absurd z (hk 1 (by decide)), fun z => absurd z (hk 2 (by decide)), fun z => absurd z (hk 3 (by decide)), fun z => absurd z (hk 4 (by decide)), fun z => absurd z (hk 5 (by decide)), fun _ => ⟨fun z => absurd z (by omega), fun _ => rfl⟩, fun z => absurd z (by omega)⟩
    · have := rb_1 hr c2
      rw [z_cl, ey]
      exact ⟨fun z => absurd z (hk 0 (by decide)), fun z => absurd z (hk 1 (by decide)), fun z => absurd z (hk 2 (by decide)), fun z => absurd z (hk 3 (by decide)), fun z => absurd z (hk 4 (by decide)), fun z => absurd z (hk 5 (by decide)), fun _ => ⟨fun _ => rfl, fun z => absurd this.2 z⟩, fun z => absurd z (by omega)⟩
theorem c_PT_count (l : Launch) (D : va_G) (ad : Nat → Nat) (ci cl : ClassId) : ∀ (sz : Nat) (σ0 : MI) (τ0 : ML) (a1 : Int32), P_PT_count σ0 τ0 a1 → gMi l D (xw ad ci cl) (xt ci cl) (xa ad) y_PT_count w_PT_count rm_PT_count [.ref (ad 0), .int a1] sz σ0 τ0 (Q_PT_count σ0 τ0 a1) :=
  k_PT_count l D ad ci cl P_PT_count Q_PT_count P_PT_isPerson Q_PT_isPerson (c_PT_isPerson l D ad ci cl) v_PT_count_0
