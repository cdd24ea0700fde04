def P_PT_isWithin (σ : MI) (τ : ML) (a0 a1 a2 : Int32) : Prop := True
def Q_PT_isWithin (σ : MI) (τ : ML) (a0 a1 a2 r : Int32) (σ' : MI) (τ' : ML) : Prop := σ = σ' ∧ τ = τ' ∧ rb (a1.toInt ≤ a0.toInt ∧ a0.toInt ≤ a2.toInt) r
theorem v_PT_isWithin_0 (σ0 : MI) (τ0 : ML) (a0 : Int32) (a1 : Int32) (a2 : Int32) (h : P_PT_isWithin σ0 τ0 a0 a1 a2) : s_PT_isWithin_0 σ0 τ0 a0 a1 a2 (Q_PT_isWithin σ0 τ0 a0 a1 a2) := by
  unfold s_PT_isWithin_0 Q_PT_isWithin
  refine ⟨fun h => ?_, fun h => ⟨fun h2 => ?_, fun h2 => ?_⟩⟩
  all_goals (refine ⟨by decide, rfl, rfl, ?_⟩)
  all_goals (simp only [z_lt, z_le, zc_0, zc_1, zc_2, zc_3, zc_4, zc_5, zc_6, zc_7, zc_10, zc_100, zc_300, zc_360, zc_600, zc_2880, zc_1000000, zc_m1] at *)
  all_goals (first | exact rb_t (by omega) | exact rb_f (by omega))
theorem c_PT_isWithin (l : Launch) (D : va_G) (ad : Nat → Nat) (ci cl : ClassId) : ∀ (sz : Nat) (σ0 : MI) (τ0 : ML) (a0 : Int32) (a1 : Int32) (a2 : Int32), P_PT_isWithin σ0 τ0 a0 a1 a2 → gMi l D (xw ad ci cl) (xt ci cl) (xa ad) y_PT_isWithin w_PT_isWithin rm_PT_isWithin [.int a0, .int a1, .int a2] sz σ0 τ0 (Q_PT_isWithin σ0 τ0 a0 a1 a2) :=
  k_PT_isWithin l D ad ci cl P_PT_isWithin Q_PT_isWithin v_PT_isWithin_0
def P_PT_isLicence (σ : MI) (τ : ML) (a0 : Int32) : Prop := True
def Q_PT_isLicence (σ : MI) (τ : ML) (a0 r : Int32) (σ' : MI) (τ' : ML) : Prop := σ = σ' ∧ τ = τ' ∧ rb (1 ≤ a0.toInt ∧ a0.toInt ≤ 5) r
theorem v_PT_isLicence_0 (σ0 : MI) (τ0 : ML) (a0 : Int32) (h : P_PT_isLicence σ0 τ0 a0) : s_PT_isLicence_0 P_PT_isWithin Q_PT_isWithin σ0 τ0 a0 (Q_PT_isLicence σ0 τ0 a0) := by
  unfold s_PT_isLicence_0 Q_PT_isLicence
  refine ⟨trivial, fun r s t hq => ?_⟩
  obtain ⟨rfl, rfl, hr⟩ := hq
  simp only [z_lt, z_le, zc_0, zc_1, zc_2, zc_3, zc_4, zc_5, zc_6, zc_7, zc_10, zc_100, zc_300, zc_360, zc_600, zc_2880, zc_1000000, zc_m1] at hr
  exact ⟨rb_01 hr, rfl, rfl, hr⟩
theorem c_PT_isLicence (l : Launch) (D : va_G) (ad : Nat → Nat) (ci cl : ClassId) : ∀ (sz : Nat) (σ0 : MI) (τ0 : ML) (a0 : Int32), P_PT_isLicence σ0 τ0 a0 → gMi l D (xw ad ci cl) (xt ci cl) (xa ad) y_PT_isLicence w_PT_isLicence rm_PT_isLicence [.int a0] sz σ0 τ0 (Q_PT_isLicence σ0 τ0 a0) :=
  k_PT_isLicence l D ad ci cl P_PT_isLicence Q_PT_isLicence P_PT_isWithin Q_PT_isWithin (c_PT_isWithin l D ad ci cl) v_PT_isLicence_0
def P_PT_isPlace (σ : MI) (τ : ML) (a0 : Int32) : Prop := True
def Q_PT_isPlace (σ : MI) (τ : ML) (a0 r : Int32) (σ' : MI) (τ' : ML) : Prop := σ = σ' ∧ τ = τ' ∧ rb (0 ≤ a0.toInt ∧ a0.toInt ≤ 4) r
theorem v_PT_isPlace_0 (σ0 : MI) (τ0 : ML) (a0 : Int32) (h : P_PT_isPlace σ0 τ0 a0) : s_PT_isPlace_0 P_PT_isWithin Q_PT_isWithin σ0 τ0 a0 (Q_PT_isPlace σ0 τ0 a0) := by
  unfold s_PT_isPlace_0 Q_PT_isPlace
  refine ⟨trivial, fun r s t hq => ?_⟩
  obtain ⟨rfl, rfl, hr⟩ := hq
  simp only [z_lt, z_le, zc_0, zc_1, zc_2, zc_3, zc_4, zc_5, zc_6, zc_7, zc_10, zc_100, zc_300, zc_360, zc_600, zc_2880, zc_1000000, zc_m1] at hr
  exact ⟨rb_01 hr, rfl, rfl, hr⟩
theorem c_PT_isPlace (l : Launch) (D : va_G) (ad : Nat → Nat) (ci cl : ClassId) : ∀ (sz : Nat) (σ0 : MI) (τ0 : ML) (a0 : Int32), P_PT_isPlace σ0 τ0 a0 → gMi l D (xw ad ci cl) (xt ci cl) (xa ad) y_PT_isPlace w_PT_isPlace rm_PT_isPlace [.int a0] sz σ0 τ0 (Q_PT_isPlace σ0 τ0 a0) :=
  k_PT_isPlace l D ad ci cl P_PT_isPlace Q_PT_isPlace P_PT_isWithin Q_PT_isWithin (c_PT_isWithin l D ad ci cl) v_PT_isPlace_0
def P_PT_isSpan (σ : MI) (τ : ML) (a0 a1 : Int32) : Prop := True
def Q_PT_isSpan (σ : MI) (τ : ML) (a0 a1 r : Int32) (σ' : MI) (τ' : ML) : Prop := σ = σ' ∧ τ = τ' ∧ rb (0 ≤ a0.toInt ∧ a0.toInt < a1.toInt ∧ a1.toInt ≤ 2880) r
theorem v_PT_isSpan_0 (σ0 : MI) (τ0 : ML) (a0 : Int32) (a1 : Int32) (h : P_PT_isSpan σ0 τ0 a0 a1) : s_PT_isSpan_0 σ0 τ0 a0 a1 (Q_PT_isSpan σ0 τ0 a0 a1) := by
  unfold s_PT_isSpan_0 Q_PT_isSpan
  refine ⟨fun h => ?_, fun h => ⟨fun h2 => ?_, fun h2 => ⟨fun h3 => ?_, fun h3 => ?_⟩⟩⟩
  all_goals (refine ⟨by decide, rfl, rfl, ?_⟩)
  all_goals (simp only [z_lt, z_le, zc_0, zc_1, zc_2, zc_3, zc_4, zc_5, zc_6, zc_7, zc_10, zc_100, zc_300, zc_360, zc_600, zc_2880, zc_1000000, zc_m1] at *)
  all_goals (first | exact rb_t (by omega) | exact rb_f (by omega))
theorem c_PT_isSpan (l : Launch) (D : va_G) (ad : Nat → Nat) (ci cl : ClassId) : ∀ (sz : Nat) (σ0 : MI) (τ0 : ML) (a0 : Int32) (a1 : Int32), P_PT_isSpan σ0 τ0 a0 a1 → gMi l D (xw ad ci cl) (xt ci cl) (xa ad) y_PT_isSpan w_PT_isSpan rm_PT_isSpan [.int a0, .int a1] sz σ0 τ0 (Q_PT_isSpan σ0 τ0 a0 a1) :=
  k_PT_isSpan l D ad ci cl P_PT_isSpan Q_PT_isSpan v_PT_isSpan_0
def P_PT_isPerson (σ : MI) (τ : ML) (a1 : Int32) : Prop := Vd (vx σ)
def Q_PT_isPerson (σ : MI) (τ : ML) (a1 r : Int32) (σ' : MI) (τ' : ML) : Prop := σ = σ' ∧ τ = τ' ∧ rb (0 ≤ a1.toInt ∧ a1.toInt < (σ 1 0).toInt) r
theorem v_PT_isPerson_0 (σ0 : MI) (τ0 : ML) (a1 : Int32) (h : P_PT_isPerson σ0 τ0 a1) : s_PT_isPerson_0 P_PT_isWithin Q_PT_isWithin σ0 τ0 a1 (Q_PT_isPerson σ0 τ0 a1) := by
  unfold s_PT_isPerson_0 Q_PT_isPerson
  refine ⟨trivial, fun r s t hq => ?_⟩
  obtain ⟨rfl, rfl, hr⟩ := hq
  have h1 : 0 ≤ (σ0 1 0).toInt ∧ (σ0 1 0).toInt ≤ 7 := by
    have h1 := h.1
    have h2 := h.2.1
    simp only [vx] at h1 h2
    omega
  rw [z_sub (by rw [zc_1]; omega) (by rw [zc_1]; omega), zc_0, zc_1] at hr
  refine ⟨rb_01 hr, rfl, rfl, rb_imp hr (by omega)⟩
theorem c_PT_isPerson (l : Launch) (D : va_G) (ad : Nat → Nat) (ci cl : ClassId) : ∀ (sz : Nat) (σ0 : MI) (τ0 : ML) (a1 : Int32), P_PT_isPerson σ0 τ0 a1 → gMi l D (xw ad ci cl) (xt ci cl) (xa ad) y_PT_isPerson w_PT_isPerson rm_PT_isPerson [.ref (ad 0), .int a1] sz σ0 τ0 (Q_PT_isPerson σ0 τ0 a1) :=
  k_PT_isPerson l D ad ci cl P_PT_isPerson Q_PT_isPerson P_PT_isWithin Q_PT_isWithin (c_PT_isWithin l D ad ci cl) v_PT_isPerson_0
def P_PT_isJob (σ : MI) (τ : ML) (a1 : Int32) : Prop := Vd (vx σ)
def Q_PT_isJob (σ : MI) (τ : ML) (a1 r : Int32) (σ' : MI) (τ' : ML) : Prop := σ = σ' ∧ τ = τ' ∧ rb (0 ≤ a1.toInt ∧ a1.toInt < (σ 8 0).toInt) r
theorem v_PT_isJob_0 (σ0 : MI) (τ0 : ML) (a1 : Int32) (h : P_PT_isJob σ0 τ0 a1) : s_PT_isJob_0 P_PT_isWithin Q_PT_isWithin σ0 τ0 a1 (Q_PT_isJob σ0 τ0 a1) := by
  unfold s_PT_isJob_0 Q_PT_isJob
  refine ⟨trivial, fun r s t hq => ?_⟩
  obtain ⟨rfl, rfl, hr⟩ := hq
  have h1 : 0 ≤ (σ0 8 0).toInt ∧ (σ0 8 0).toInt ≤ 7 := by
    have h1 := h.1
    have h2 := h.2.1
    simp only [vx] at h1 h2
    omega
  rw [z_sub (by rw [zc_1]; omega) (by rw [zc_1]; omega), zc_0, zc_1] at hr
  refine ⟨rb_01 hr, rfl, rfl, rb_imp hr (by omega)⟩
theorem c_PT_isJob (l : Launch) (D : va_G) (ad : Nat → Nat) (ci cl : ClassId) : ∀ (sz : Nat) (σ0 : MI) (τ0 : ML) (a1 : Int32), P_PT_isJob σ0 τ0 a1 → gMi l D (xw ad ci cl) (xt ci cl) (xa ad) y_PT_isJob w_PT_isJob rm_PT_isJob [.ref (ad 0), .int a1] sz σ0 τ0 (Q_PT_isJob σ0 τ0 a1) :=
  k_PT_isJob l D ad ci cl P_PT_isJob Q_PT_isJob P_PT_isWithin Q_PT_isWithin (c_PT_isWithin l D ad ci cl) v_PT_isJob_0
def P_Mo_in (σ : MI) (τ : ML) (a0 a1 a2 : Int32) : Prop := True
def Q_Mo_in (σ : MI) (τ : ML) (a0 a1 a2 r : Int32) (σ' : MI) (τ' : ML) : Prop := σ = σ' ∧ τ = τ' ∧ rb (a1.toInt ≤ a0.toInt ∧ a0.toInt ≤ a2.toInt) r
theorem v_Mo_in_0 (σ0 : MI) (τ0 : ML) (a0 : Int32) (a1 : Int32) (a2 : Int32) (h : P_Mo_in σ0 τ0 a0 a1 a2) : s_Mo_in_0 σ0 τ0 a0 a1 a2 (Q_Mo_in σ0 τ0 a0 a1 a2) := by
  unfold s_Mo_in_0 Q_Mo_in
  refine ⟨fun h => ?_, fun h => ⟨fun h2 => ?_, fun h2 => ?_⟩⟩
  all_goals (refine ⟨by decide, rfl, rfl, ?_⟩)
  all_goals (simp only [z_lt, z_le, zc_0, zc_1, zc_2, zc_3, zc_4, zc_5, zc_6, zc_7, zc_10, zc_100, zc_300, zc_360, zc_600, zc_2880, zc_1000000, zc_m1] at *)
  all_goals (first | exact rb_t (by omega) | exact rb_f (by omega))
theorem c_Mo_in (l : Launch) (D : va_G) (ad : Nat → Nat) (ci cl : ClassId) : ∀ (sz : Nat) (σ0 : MI) (τ0 : ML) (a0 : Int32) (a1 : Int32) (a2 : Int32), P_Mo_in σ0 τ0 a0 a1 a2 → gMi l D (xw ad ci cl) (xt ci cl) (xa ad) y_Mo_in w_Mo_in rm_Mo_in [.int a0, .int a1, .int a2] sz σ0 τ0 (Q_Mo_in σ0 τ0 a0 a1 a2) :=
  k_Mo_in l D ad ci cl P_Mo_in Q_Mo_in v_Mo_in_0
def P_Mo_isPlace (σ : MI) (τ : ML) (a0 : Int32) : Prop := True
def Q_Mo_isPlace (σ : MI) (τ : ML) (a0 r : Int32) (σ' : MI) (τ' : ML) : Prop := σ = σ' ∧ τ = τ' ∧ rb (0 ≤ a0.toInt ∧ a0.toInt ≤ 4) r
theorem v_Mo_isPlace_0 (σ0 : MI) (τ0 : ML) (a0 : Int32) (h : P_Mo_isPlace σ0 τ0 a0) : s_Mo_isPlace_0 σ0 τ0 a0 (Q_Mo_isPlace σ0 τ0 a0) := by
  unfold s_Mo_isPlace_0 Q_Mo_isPlace
  refine ⟨fun h => ?_, fun h => ⟨fun h2 => ?_, fun h2 => ?_⟩⟩
  all_goals (refine ⟨by decide, rfl, rfl, ?_⟩)
  all_goals (simp only [z_lt, z_le, zc_0, zc_1, zc_2, zc_3, zc_4, zc_5, zc_6, zc_7, zc_10, zc_100, zc_300, zc_360, zc_600, zc_2880, zc_1000000, zc_m1] at *)
  all_goals (first | exact rb_t (by omega) | exact rb_f (by omega))
theorem c_Mo_isPlace (l : Launch) (D : va_G) (ad : Nat → Nat) (ci cl : ClassId) : ∀ (sz : Nat) (σ0 : MI) (τ0 : ML) (a0 : Int32), P_Mo_isPlace σ0 τ0 a0 → gMi l D (xw ad ci cl) (xt ci cl) (xa ad) y_Mo_isPlace w_Mo_isPlace rm_Mo_isPlace [.int a0] sz σ0 τ0 (Q_Mo_isPlace σ0 τ0 a0) :=
  k_Mo_isPlace l D ad ci cl P_Mo_isPlace Q_Mo_isPlace v_Mo_isPlace_0
def P_Mo_isPerson (σ : MI) (τ : ML) (a1 : Int32) : Prop := True
def Q_Mo_isPerson (σ : MI) (τ : ML) (a1 r : Int32) (σ' : MI) (τ' : ML) : Prop := σ = σ' ∧ τ = τ' ∧ rb (0 ≤ a1.toInt ∧ a1.toInt < (σ 29 1).toInt) r
theorem v_Mo_isPerson_0 (σ0 : MI) (τ0 : ML) (a1 : Int32) (h : P_Mo_isPerson σ0 τ0 a1) : s_Mo_isPerson_0 σ0 τ0 a1 (Q_Mo_isPerson σ0 τ0 a1) := by
  unfold s_Mo_isPerson_0 Q_Mo_isPerson
  refine ⟨fun h => ?_, fun h => ⟨fun h2 => ?_, fun h2 => ?_⟩⟩
  all_goals (refine ⟨by decide, rfl, rfl, ?_⟩)
  all_goals (simp only [z_lt, z_le, zc_0, zc_1, zc_2, zc_3, zc_4, zc_5, zc_6, zc_7, zc_10, zc_100, zc_300, zc_360, zc_600, zc_2880, zc_1000000, zc_m1] at *)
  all_goals (first | exact rb_t (by omega) | exact rb_f (by omega))
theorem c_Mo_isPerson (l : Launch) (D : va_G) (ad : Nat → Nat) (ci cl : ClassId) : ∀ (sz : Nat) (σ0 : MI) (τ0 : ML) (a1 : Int32), P_Mo_isPerson σ0 τ0 a1 → gMi l D (xw ad ci cl) (xt ci cl) (xa ad) y_Mo_isPerson w_Mo_isPerson rm_Mo_isPerson [.ref (ad 29), .int a1] sz σ0 τ0 (Q_Mo_isPerson σ0 τ0 a1) :=
  k_Mo_isPerson l D ad ci cl P_Mo_isPerson Q_Mo_isPerson v_Mo_isPerson_0
def P_Mo_isJob (σ : MI) (τ : ML) (a1 : Int32) : Prop := True
def Q_Mo_isJob (σ : MI) (τ : ML) (a1 r : Int32) (σ' : MI) (τ' : ML) : Prop := σ = σ' ∧ τ = τ' ∧ rb (0 ≤ a1.toInt ∧ a1.toInt < (σ 29 10).toInt) r
theorem v_Mo_isJob_0 (σ0 : MI) (τ0 : ML) (a1 : Int32) (h : P_Mo_isJob σ0 τ0 a1) : s_Mo_isJob_0 σ0 τ0 a1 (Q_Mo_isJob σ0 τ0 a1) := by
  unfold s_Mo_isJob_0 Q_Mo_isJob
  refine ⟨fun h => ?_, fun h => ⟨fun h2 => ?_, fun h2 => ?_⟩⟩
  all_goals (refine ⟨by decide, rfl, rfl, ?_⟩)
  all_goals (simp only [z_lt, z_le, zc_0, zc_1, zc_2, zc_3, zc_4, zc_5, zc_6, zc_7, zc_10, zc_100, zc_300, zc_360, zc_600, zc_2880, zc_1000000, zc_m1] at *)
  all_goals (first | exact rb_t (by omega) | exact rb_f (by omega))
theorem c_Mo_isJob (l : Launch) (D : va_G) (ad : Nat → Nat) (ci cl : ClassId) : ∀ (sz : Nat) (σ0 : MI) (τ0 : ML) (a1 : Int32), P_Mo_isJob σ0 τ0 a1 → gMi l D (xw ad ci cl) (xt ci cl) (xa ad) y_Mo_isJob w_Mo_isJob rm_Mo_isJob [.ref (ad 29), .int a1] sz σ0 τ0 (Q_Mo_isJob σ0 τ0 a1) :=
  k_Mo_isJob l D ad ci cl P_Mo_isJob Q_Mo_isJob v_Mo_isJob_0
def P_Mo_isSpan (σ : MI) (τ : ML) (a0 a1 : Int32) : Prop := True
def Q_Mo_isSpan (σ : MI) (τ : ML) (a0 a1 r : Int32) (σ' : MI) (τ' : ML) : Prop := σ = σ' ∧ τ = τ' ∧ rb (0 ≤ a0.toInt ∧ a0.toInt < a1.toInt ∧ a1.toInt ≤ 2880) r
theorem v_Mo_isSpan_0 (σ0 : MI) (τ0 : ML) (a0 : Int32) (a1 : Int32) (h : P_Mo_isSpan σ0 τ0 a0 a1) : s_Mo_isSpan_0 σ0 τ0 a0 a1 (Q_Mo_isSpan σ0 τ0 a0 a1) := by
  unfold s_Mo_isSpan_0 Q_Mo_isSpan
  refine ⟨fun h => ?_, fun h => ⟨fun h2 => ?_, fun h2 => ⟨fun h3 => ?_, fun h3 => ?_⟩⟩⟩
  all_goals (refine ⟨by decide, rfl, rfl, ?_⟩)
  all_goals (simp only [z_lt, z_le, zc_0, zc_1, zc_2, zc_3, zc_4, zc_5, zc_6, zc_7, zc_10, zc_100, zc_300, zc_360, zc_600, zc_2880, zc_1000000, zc_m1] at *)
  all_goals (first | exact rb_t (by omega) | exact rb_f (by omega))
theorem c_Mo_isSpan (l : Launch) (D : va_G) (ad : Nat → Nat) (ci cl : ClassId) : ∀ (sz : Nat) (σ0 : MI) (τ0 : ML) (a0 : Int32) (a1 : Int32), P_Mo_isSpan σ0 τ0 a0 a1 → gMi l D (xw ad ci cl) (xt ci cl) (xa ad) y_Mo_isSpan w_Mo_isSpan rm_Mo_isSpan [.int a0, .int a1] sz σ0 τ0 (Q_Mo_isSpan σ0 τ0 a0 a1) :=
  k_Mo_isSpan l D ad ci cl P_Mo_isSpan Q_Mo_isSpan v_Mo_isSpan_0
def P_Mo_thrown (σ : MI) (τ : ML) : Prop := True
def Q_Mo_thrown (σ : MI) (τ : ML) (r : Int32) (σ' : MI) (τ' : ML) : Prop := σ = σ' ∧ τ = τ' ∧ r = σ 29 0
theorem v_Mo_thrown_0 (σ0 : MI) (τ0 : ML) (h : P_Mo_thrown σ0 τ0) : s_Mo_thrown_0 σ0 τ0 (Q_Mo_thrown σ0 τ0) := by
  exact ⟨rfl, rfl, rfl⟩
theorem c_Mo_thrown (l : Launch) (D : va_G) (ad : Nat → Nat) (ci cl : ClassId) : ∀ (sz : Nat) (σ0 : MI) (τ0 : ML), P_Mo_thrown σ0 τ0 → gMi l D (xw ad ci cl) (xt ci cl) (xa ad) y_Mo_thrown w_Mo_thrown rm_Mo_thrown [.ref (ad 29)] sz σ0 τ0 (Q_Mo_thrown σ0 τ0) :=
  k_Mo_thrown l D ad ci cl P_Mo_thrown Q_Mo_thrown v_Mo_thrown_0
def P_Mo_refuse (σ : MI) (τ : ML) (a1 : Int32) : Prop := True
def Q_Mo_refuse (σ : MI) (τ : ML) (a1 r : Int32) (σ' : MI) (τ' : ML) : Prop := σ' = st2 σ 29 0 a1 ∧ τ = τ'
theorem v_Mo_refuse_0 (σ0 : MI) (τ0 : ML) (a1 : Int32) (h : P_Mo_refuse σ0 τ0 a1) : s_Mo_refuse_0 σ0 τ0 a1 (Q_Mo_refuse σ0 τ0 a1) := by
  unfold s_Mo_refuse_0
  intro s hs
  exact ⟨hs, rfl⟩
theorem c_Mo_refuse (l : Launch) (D : va_G) (ad : Nat → Nat) (ci cl : ClassId) : ∀ (sz : Nat) (σ0 : MI) (τ0 : ML) (a1 : Int32), P_Mo_refuse σ0 τ0 a1 → gMi l D (xw ad ci cl) (xt ci cl) (xa ad) y_Mo_refuse w_Mo_refuse rm_Mo_refuse [.ref (ad 29), .int a1] sz σ0 τ0 (Q_Mo_refuse σ0 τ0 a1) :=
  k_Mo_refuse l D ad ci cl P_Mo_refuse Q_Mo_refuse v_Mo_refuse_0
def P_Planner_digitShift (σ : MI) (τ : ML) (a0 : Int32) : Prop := True
def Q_Planner_digitShift (σ : MI) (τ : ML) (a0 r : Int32) (σ' : MI) (τ' : ML) : Prop := σ = σ' ∧ τ = τ' ∧ r = 3 * (6 - a0)
theorem v_Planner_digitShift_0 (σ0 : MI) (τ0 : ML) (a0 : Int32) (h : P_Planner_digitShift σ0 τ0 a0) : s_Planner_digitShift_0 σ0 τ0 a0 (Q_Planner_digitShift σ0 τ0 a0) := by
  exact ⟨rfl, rfl, rfl⟩
theorem c_Planner_digitShift (l : Launch) (D : va_G) (ad : Nat → Nat) (ci cl : ClassId) : ∀ (sz : Nat) (σ0 : MI) (τ0 : ML) (a0 : Int32), P_Planner_digitShift σ0 τ0 a0 → gMi l D (xw ad ci cl) (xt ci cl) (xa ad) y_Planner_digitShift w_Planner_digitShift rm_Planner_digitShift [.int a0] sz σ0 τ0 (Q_Planner_digitShift σ0 τ0 a0) :=
  k_Planner_digitShift l D ad ci cl P_Planner_digitShift Q_Planner_digitShift v_Planner_digitShift_0
def P_Plan_isBarred (σ : MI) (τ : ML) (a1 : Int32) : Prop := True
def Q_Plan_isBarred (σ : MI) (τ : ML) (a1 r : Int32) (σ' : MI) (τ' : ML) : Prop := σ = σ' ∧ τ = τ' ∧ rb (¬ ((σ 22 1) >>> (a1 &&& 31)) &&& 1 = 0) r
theorem v_Plan_isBarred_0 (σ0 : MI) (τ0 : ML) (a1 : Int32) (h : P_Plan_isBarred σ0 τ0 a1) : s_Plan_isBarred_0 σ0 τ0 a1 (Q_Plan_isBarred σ0 τ0 a1) := by
  unfold s_Plan_isBarred_0 Q_Plan_isBarred
  exact ⟨fun h => ⟨by decide, rfl, rfl, Or.inr ⟨rfl, fun z => z h⟩⟩, fun h => ⟨by decide, rfl, rfl, Or.inl ⟨rfl, h⟩⟩⟩
theorem c_Plan_isBarred (l : Launch) (D : va_G) (ad : Nat → Nat) (ci cl : ClassId) : ∀ (sz : Nat) (σ0 : MI) (τ0 : ML) (a1 : Int32), P_Plan_isBarred σ0 τ0 a1 → gMi l D (xw ad ci cl) (xt ci cl) (xa ad) y_Plan_isBarred w_Plan_isBarred rm_Plan_isBarred [.ref (ad 22), .int a1] sz σ0 τ0 (Q_Plan_isBarred σ0 τ0 a1) :=
  k_Plan_isBarred l D ad ci cl P_Plan_isBarred Q_Plan_isBarred v_Plan_isBarred_0
def P_Mo_isBarred (σ : MI) (τ : ML) (a1 : Int32) : Prop := True
def Q_Mo_isBarred (σ : MI) (τ : ML) (a1 r : Int32) (σ' : MI) (τ' : ML) : Prop := σ = σ' ∧ τ = τ' ∧ rb (((σ 29 21) >>> (a1 &&& 31)) &&& 1 = 1) r
theorem v_Mo_isBarred_0 (σ0 : MI) (τ0 : ML) (a1 : Int32) (h : P_Mo_isBarred σ0 τ0 a1) : s_Mo_isBarred_0 σ0 τ0 a1 (Q_Mo_isBarred σ0 τ0 a1) := by
  unfold s_Mo_isBarred_0 Q_Mo_isBarred
  exact ⟨fun h => ⟨by decide, rfl, rfl, Or.inr ⟨rfl, h⟩⟩, fun h => ⟨by decide, rfl, rfl, Or.inl ⟨rfl, h⟩⟩⟩
theorem c_Mo_isBarred (l : Launch) (D : va_G) (ad : Nat → Nat) (ci cl : ClassId) : ∀ (sz : Nat) (σ0 : MI) (τ0 : ML) (a1 : Int32), P_Mo_isBarred σ0 τ0 a1 → gMi l D (xw ad ci cl) (xt ci cl) (xa ad) y_Mo_isBarred w_Mo_isBarred rm_Mo_isBarred [.ref (ad 29), .int a1] sz σ0 τ0 (Q_Mo_isBarred σ0 τ0 a1) :=
  k_Mo_isBarred l D ad ci cl P_Mo_isBarred Q_Mo_isBarred v_Mo_isBarred_0
def P_Ways_between (σ : MI) (τ : ML) (a1 a2 : Int32) : Prop := (0 ≤ a1.toInt ∧ a1.toInt ≤ 4) ∧ (0 ≤ a2.toInt ∧ a2.toInt ≤ 4)
def Q_Ways_between (σ : MI) (τ : ML) (a1 a2 r : Int32) (σ' : MI) (τ' : ML) : Prop := σ = σ' ∧ τ = τ' ∧ r = σ 18 (a1.toInt * 5 + a2.toInt).toNat
theorem bt_ix {a1 a2 : Int32} (h : (0 ≤ a1.toInt ∧ a1.toInt ≤ 4) ∧ (0 ≤ a2.toInt ∧ a2.toInt ≤ 4)) : (a1 * 5 + a2).toInt = a1.toInt * 5 + a2.toInt := by
  have e : (a1 * 5).toInt = a1.toInt * 5 := by rw [z_mul (by rw [zc_5]; omega) (by rw [zc_5]; omega), zc_5]
  rw [z_add (by rw [e]; omega) (by rw [e]; omega), e]
theorem bt_ix2 {a1 a2 : Int32} (h : (0 ≤ a1.toInt ∧ a1.toInt ≤ 4) ∧ (0 ≤ a2.toInt ∧ a2.toInt ≤ 4)) : (5 * a1 + a2).toInt = a1.toInt * 5 + a2.toInt := by
  have e : (5 * a1).toInt = a1.toInt * 5 := by rw [z_mul (by rw [zc_5]; omega) (by rw [zc_5]; omega), zc_5]; omega
  rw [z_add (by rw [e]; omega) (by rw [e]; omega), e]
theorem v_Ways_between_0 (σ0 : MI) (τ0 : ML) (a1 : Int32) (a2 : Int32) (h : P_Ways_between σ0 τ0 a1 a2) : s_Ways_between_0 σ0 τ0 a1 a2 (Q_Ways_between σ0 τ0 a1 a2) := by
  unfold s_Ways_between_0 Q_Ways_between
  rw [z_in, z_cl, bt_ix h]
  obtain ⟨h1, h2⟩ := h
  exact ⟨⟨by omega, by omega⟩, rfl, rfl, rfl⟩
theorem c_Ways_between (l : Launch) (D : va_G) (ad : Nat → Nat) (ci cl : ClassId) : ∀ (sz : Nat) (σ0 : MI) (τ0 : ML) (a1 : Int32) (a2 : Int32), P_Ways_between σ0 τ0 a1 a2 → gMi l D (xw ad ci cl) (xt ci cl) (xa ad) y_Ways_between w_Ways_between rm_Ways_between [.ref (ad 17), .int a1, .int a2] sz σ0 τ0 (Q_Ways_between σ0 τ0 a1 a2) :=
  k_Ways_between l D ad ci cl P_Ways_between Q_Ways_between v_Ways_between_0
