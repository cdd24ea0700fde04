def pok (a1 a2 a3 a4 : Int32) : Prop := (1 ≤ a1.toInt ∧ a1.toInt ≤ 5) ∧ (0 ≤ a2.toInt ∧ a2.toInt < a3.toInt ∧ a3.toInt ≤ 2880) ∧ (0 ≤ a4.toInt ∧ a4.toInt ≤ 4)
def mperson (σ : MI) (a1 a2 a3 a4 : Int32) : MI := st2 (st2 (st2 (st2 (st2 (st2 (st2 σ 29 0 0) 30 (σ 29 1).toNatClampNeg a1) 31 (σ 29 1).toNatClampNeg a2) 32 (σ 29 1).toNatClampNeg a3) 33 (σ 29 1).toNatClampNeg a4) 29 1 (σ 29 1 + 1)) 29 18 0
def P_Mo_person (σ : MI) (τ : ML) (a1 a2 a3 a4 : Int32) : Prop := Vd (vm σ)
def Q_Mo_person (σ : MI) (τ : ML) (a1 a2 a3 a4 r : Int32) (σ' : MI) (τ' : ML) : Prop :=
  τ = τ' ∧ ((¬ pok a1 a2 a3 a4 ∧ σ' = st2 σ 29 0 1) ∨ (pok a1 a2 a3 a4 ∧ σ 29 1 = 4 ∧ σ' = st2 σ 29 0 2) ∨ (pok a1 a2 a3 a4 ∧ σ 29 1 ≠ 4 ∧ r = σ 29 1 ∧ σ' = mperson σ a1 a2 a3 a4))
theorem i32_ac (x : Int32) : x + 1 - 1 = x := by
  rw [Int32.add_sub_cancel]
theorem v_Mo_person_0 (σ0 : MI) (τ0 : ML) (a1 : Int32) (a2 : Int32) (a3 : Int32) (a4 : Int32) (h : P_Mo_person σ0 τ0 a1 a2 a3 a4) : s_Mo_person_0 P_Mo_in Q_Mo_in P_Mo_refuse Q_Mo_refuse P_Mo_isSpan Q_Mo_isSpan P_Mo_isPlace Q_Mo_isPlace σ0 τ0 a1 a2 a3 a4 (Q_Mo_person σ0 τ0 a1 a2 a3 a4) := by
  have hd : Vd (vm σ0) := h
  have h1 := hd.1
  simp only [vm] at h1
  unfold s_Mo_person_0
  refine ⟨trivial, fun r3 s3 t3 q => ?_⟩
  obtain ⟨rfl, rfl, q1⟩ := q
  simp only [z_lt, z_le, zc_0, zc_1, zc_2, zc_3, zc_4, zc_5, zc_6, zc_7, zc_10, zc_100, zc_300, zc_360, zc_600, zc_2880, zc_1000000, zc_m1] at q1
  refine ⟨fun c => ⟨trivial, fun r s t q => ?_⟩, fun c => ⟨trivial, fun r11 s11 t11 q => ?_⟩⟩
  · obtain ⟨rfl, rfl⟩ := q
    exact ⟨rfl, Or.inl ⟨fun z => rb_0 q1 c z.1, rfl⟩⟩
  obtain ⟨rfl, rfl, q2⟩ := q
  refine ⟨fun c2 => ⟨trivial, fun r s t q => ?_⟩, fun c2 => ⟨trivial, fun r19 s19 t19 q => ?_⟩⟩
  · obtain ⟨rfl, rfl⟩ := q
    exact ⟨rfl, Or.inl ⟨fun z => rb_0 q2 c2 z.2.1, rfl⟩⟩
  obtain ⟨rfl, rfl, q3⟩ := q
  refine ⟨fun c3 => ⟨fun c4 => ?_, fun c4 => ⟨trivial, fun r s t q => ?_⟩⟩, fun c3 => ⟨trivial, fun r s t q => ?_⟩⟩
  · have hin : vp_in (σ0 29 1) 4 := z_in.mpr ⟨h1.1, by
      rw [z_eq, zc_4] at c4
      omega⟩
    intro s47 h47
    have e47 : s47 29 1 = σ0 29 1 := by rw [h47]; rfl
    rw [e47]
    refine ⟨hin, fun s59 h59 => ?_⟩
    have e59 : s59 29 1 = σ0 29 1 := by rw [h59, st2_ne (by decide), e47]
    rw [e59]
    refine ⟨hin, fun s69 h69 => ?_⟩
    have e69 : s69 29 1 = σ0 29 1 := by rw [h69, st2_ne (by decide), e59]
    rw [e69]
    refine ⟨hin, fun s79 h79 => ?_⟩
    have e79 : s79 29 1 = σ0 29 1 := by rw [h79, st2_ne (by decide), e69]
    rw [e79]
    refine ⟨hin, fun s90 h90 s98 h98 s103 h103 => ⟨rfl, Or.inr (Or.inr ⟨⟨rb_1 q1 c, rb_1 q2 c2, rb_1 q3 c3⟩, c4, ?_, ?_⟩)⟩⟩
    · have e90 : s90 29 1 = σ0 29 1 := by rw [h90, st2_ne (by decide), e79]
      rw [h103, st2_at, if_neg (by decide), h98, st2_at, if_pos ⟨rfl, rfl⟩, e90, i32_ac]
    · have e90 : s90 29 1 = σ0 29 1 := by rw [h90, st2_ne (by decide), e79]
      unfold mperson
      rw [h103, h98, e90, h90, h79, h69, h59, h47]
  · obtain ⟨rfl, rfl⟩ := q
    exact ⟨rfl, Or.inr (Or.inl ⟨⟨rb_1 q1 c, rb_1 q2 c2, rb_1 q3 c3⟩, c4, rfl⟩)⟩
  · obtain ⟨rfl, rfl⟩ := q
    exact ⟨rfl, Or.inl ⟨fun z => rb_0 q3 c3 z.2.2, rfl⟩⟩
theorem c_Mo_person (l : Launch) (D : va_G) (ad : Nat → Nat) (ci cl : ClassId) : ∀ (sz : Nat) (σ0 : MI) (τ0 : ML) (a1 : Int32) (a2 : Int32) (a3 : Int32) (a4 : Int32), P_Mo_person σ0 τ0 a1 a2 a3 a4 → gMi l D (xw ad ci cl) (xt ci cl) (xa ad) y_Mo_person w_Mo_person rm_Mo_person [.ref (ad 29), .int a1, .int a2, .int a3, .int a4] sz σ0 τ0 (Q_Mo_person σ0 τ0 a1 a2 a3 a4) :=
  k_Mo_person l D ad ci cl P_Mo_person Q_Mo_person P_Mo_in Q_Mo_in P_Mo_refuse Q_Mo_refuse P_Mo_isSpan Q_Mo_isSpan P_Mo_isPlace Q_Mo_isPlace (c_Mo_in l D ad ci cl) (c_Mo_refuse l D ad ci cl) (c_Mo_isSpan l D ad ci cl) (c_Mo_isPlace l D ad ci cl) v_Mo_person_0
def tok (a1 : Int32) : Prop := 1 ≤ a1.toInt ∧ a1.toInt ≤ 100
def mtug (σ : MI) (a1 : Int32) : MI := st2 (st2 (st2 (st2 σ 29 0 0) 36 (σ 29 8).toNatClampNeg a1) 29 8 (σ 29 8 + 1)) 29 18 0
def P_Mo_tug (σ : MI) (τ : ML) (a1 : Int32) : Prop := Vd (vm σ)
def Q_Mo_tug (σ : MI) (τ : ML) (a1 r : Int32) (σ' : MI) (τ' : ML) : Prop :=
  τ = τ' ∧ ((¬ tok a1 ∧ σ' = st2 σ 29 0 1) ∨ (tok a1 ∧ σ 29 8 = 6 ∧ σ' = st2 σ 29 0 2) ∨ (tok a1 ∧ σ 29 8 ≠ 6 ∧ r = σ 29 8 ∧ σ' = mtug σ a1))
theorem v_Mo_tug_0 (σ0 : MI) (τ0 : ML) (a1 : Int32) (h : P_Mo_tug σ0 τ0 a1) : s_Mo_tug_0 P_Mo_in Q_Mo_in P_Mo_refuse Q_Mo_refuse σ0 τ0 a1 (Q_Mo_tug σ0 τ0 a1) := by
  have hd : Vd (vm σ0) := h
  have h1 := hd.2.2.1
  simp only [vm] at h1
  unfold s_Mo_tug_0
  refine ⟨trivial, fun r3 s3 t3 q => ?_⟩
  obtain ⟨rfl, rfl, q1⟩ := q
  simp only [z_lt, z_le, zc_0, zc_1, zc_2, zc_3, zc_4, zc_5, zc_6, zc_7, zc_10, zc_100, zc_300, zc_360, zc_600, zc_2880, zc_1000000, zc_m1] at q1
  refine ⟨fun c => ⟨fun c4 => ?_, fun c4 => ⟨trivial, fun r s t q => ?_⟩⟩, fun c => ⟨trivial, fun r s t q => ?_⟩⟩
  · have hin : vp_in (σ0 29 8) 6 := z_in.mpr ⟨h1.1, by
      rw [z_eq, zc_6] at c4
      omega⟩
    intro s47 h47
    have e47 : s47 29 8 = σ0 29 8 := by rw [h47]; rfl
    rw [e47]
    refine ⟨hin, fun s59 h59 s53 h53 s58 h58 => ⟨rfl, Or.inr (Or.inr ⟨rb_1 q1 c, c4, ?_, ?_⟩)⟩⟩
    · have e59 : s59 29 8 = σ0 29 8 := by rw [h59, st2_ne (by decide), e47]
      rw [h58, st2_at, if_neg (by decide), h53, st2_at, if_pos ⟨rfl, rfl⟩, e59, i32_ac]
    · have e59 : s59 29 8 = σ0 29 8 := by rw [h59, st2_ne (by decide), e47]
      unfold mtug
      rw [h58, h53, e59, h59, h47]
  · obtain ⟨rfl, rfl⟩ := q
    exact ⟨rfl, Or.inr (Or.inl ⟨rb_1 q1 c, c4, rfl⟩)⟩
  · obtain ⟨rfl, rfl⟩ := q
    exact ⟨rfl, Or.inl ⟨rb_0 q1 c, rfl⟩⟩
theorem c_Mo_tug (l : Launch) (D : va_G) (ad : Nat → Nat) (ci cl : ClassId) : ∀ (sz : Nat) (σ0 : MI) (τ0 : ML) (a1 : Int32), P_Mo_tug σ0 τ0 a1 → gMi l D (xw ad ci cl) (xt ci cl) (xa ad) y_Mo_tug w_Mo_tug rm_Mo_tug [.ref (ad 29), .int a1] sz σ0 τ0 (Q_Mo_tug σ0 τ0 a1) :=
  k_Mo_tug l D ad ci cl P_Mo_tug Q_Mo_tug P_Mo_in Q_Mo_in P_Mo_refuse Q_Mo_refuse (c_Mo_in l D ad ci cl) (c_Mo_refuse l D ad ci cl) v_Mo_tug_0
def jok (a1 a2 a3 a4 a5 : Int32) : Prop := (1 ≤ a1.toInt ∧ a1.toInt ≤ 5) ∧ (0 ≤ a2.toInt ∧ a2.toInt ≤ 300) ∧ (0 ≤ a3.toInt ∧ a3.toInt < a4.toInt ∧ a4.toInt ≤ 2880) ∧ a4.toInt - a3.toInt ≤ 600 ∧ (0 ≤ a5.toInt ∧ a5.toInt ≤ 4)
def mjob (σ : MI) (a1 a2 a3 a4 a5 : Int32) : MI := st2 (st2 (st2 (st2 (st2 (st2 (st2 (st2 σ 29 0 0) 37 (σ 29 10).toNatClampNeg a1) 38 (σ 29 10).toNatClampNeg a2) 39 (σ 29 10).toNatClampNeg a3) 40 (σ 29 10).toNatClampNeg a4) 41 (σ 29 10).toNatClampNeg a5) 29 10 (σ 29 10 + 1)) 29 18 0
def P_Mo_job (σ : MI) (τ : ML) (a1 a2 a3 a4 a5 : Int32) : Prop := Vd (vm σ)
def Q_Mo_job (σ : MI) (τ : ML) (a1 a2 a3 a4 a5 r : Int32) (σ' : MI) (τ' : ML) : Prop :=
  τ = τ' ∧ ((¬ jok a1 a2 a3 a4 a5 ∧ σ' = st2 σ 29 0 1) ∨ (jok a1 a2 a3 a4 a5 ∧ σ 29 10 = 7 ∧ σ' = st2 σ 29 0 2) ∨ (jok a1 a2 a3 a4 a5 ∧ σ 29 10 ≠ 7 ∧ r = σ 29 10 ∧ σ' = mjob σ a1 a2 a3 a4 a5))
theorem span_sub {a b : Int32} (h : 0 ≤ a.toInt ∧ a.toInt < b.toInt ∧ b.toInt ≤ 2880) : (b - a).toInt = b.toInt - a.toInt := z_sub (by omega) (by omega)
theorem v_Mo_job_0 (σ0 : MI) (τ0 : ML) (a1 : Int32) (a2 : Int32) (a3 : Int32) (a4 : Int32) (a5 : Int32) (h : P_Mo_job σ0 τ0 a1 a2 a3 a4 a5) : s_Mo_job_0 P_Mo_in Q_Mo_in P_Mo_refuse Q_Mo_refuse P_Mo_isSpan Q_Mo_isSpan P_Mo_isPlace Q_Mo_isPlace σ0 τ0 a1 a2 a3 a4 a5 (Q_Mo_job σ0 τ0 a1 a2 a3 a4 a5) := by
  have hd : Vd (vm σ0) := h
  have h1 := hd.2.1
  simp only [vm] at h1
  unfold s_Mo_job_0
  refine ⟨trivial, fun r3 s3 t3 q => ?_⟩
  obtain ⟨rfl, rfl, q1⟩ := q
  simp only [z_lt, z_le, zc_0, zc_1, zc_2, zc_3, zc_4, zc_5, zc_6, zc_7, zc_10, zc_100, zc_300, zc_360, zc_600, zc_2880, zc_1000000, zc_m1] at q1
  refine ⟨fun c => ⟨trivial, fun r s t q => ?_⟩, fun c => ⟨trivial, fun r14 s14 t14 q => ?_⟩⟩
  · obtain ⟨rfl, rfl⟩ := q
    exact ⟨rfl, Or.inl ⟨fun z => rb_0 q1 c z.1, rfl⟩⟩
  obtain ⟨rfl, rfl, q2⟩ := q
  simp only [z_lt, z_le, zc_0, zc_1, zc_2, zc_3, zc_4, zc_5, zc_6, zc_7, zc_10, zc_100, zc_300, zc_360, zc_600, zc_2880, zc_1000000, zc_m1] at q2
  refine ⟨fun c2 => ⟨trivial, fun r s t q => ?_⟩, fun c2 => ⟨trivial, fun r23 s23 t23 q => ?_⟩⟩
  · obtain ⟨rfl, rfl⟩ := q
    exact ⟨rfl, Or.inl ⟨fun z => rb_0 q2 c2 z.2.1, rfl⟩⟩
  obtain ⟨rfl, rfl, q3⟩ := q
  refine ⟨fun c3 => ⟨trivial, fun r s t q => ?_⟩, fun c3 => ⟨fun c4 => ⟨trivial, fun r s t q => ?_⟩, fun c4 => ⟨trivial, fun r41 s41 t41 q => ?_⟩⟩⟩
  · obtain ⟨rfl, rfl⟩ := q
    exact ⟨rfl, Or.inl ⟨fun z => rb_0 q3 c3 z.2.2.1, rfl⟩⟩
  · obtain ⟨rfl, rfl⟩ := q
    rw [z_lt, zc_600, span_sub (rb_1 q3 c3)] at c4
    exact ⟨rfl, Or.inl ⟨fun z => by have := z.2.2.2.1; omega, rfl⟩⟩
  obtain ⟨rfl, rfl, q4⟩ := q
  rw [z_lt, zc_600, span_sub (rb_1 q3 c3)] at c4
  have c4' : a4.toInt - a3.toInt ≤ 600 := by omega
  refine ⟨fun c5 => ⟨fun c6 => ?_, fun c6 => ⟨trivial, fun r s t q => ?_⟩⟩, fun c5 => ⟨trivial, fun r s t q => ?_⟩⟩
  · have hin : vp_in (σ0 29 10) 7 := z_in.mpr ⟨h1.1, by
      rw [z_eq, zc_7] at c6
      omega⟩
    intro s47 h47
    have e47 : s47 29 10 = σ0 29 10 := by rw [h47]; rfl
    rw [e47]
    refine ⟨hin, fun s59 h59 => ?_⟩
    have e59 : s59 29 10 = σ0 29 10 := by rw [h59, st2_ne (by decide), e47]
    rw [e59]
    refine ⟨hin, fun s69 h69 => ?_⟩
    have e69 : s69 29 10 = σ0 29 10 := by rw [h69, st2_ne (by decide), e59]
    rw [e69]
    refine ⟨hin, fun s79 h79 => ?_⟩
    have e79 : s79 29 10 = σ0 29 10 := by rw [h79, st2_ne (by decide), e69]
    rw [e79]
    refine ⟨hin, fun s85 h85 => ?_⟩
    have e85 : s85 29 10 = σ0 29 10 := by rw [h85, st2_ne (by decide), e79]
    rw [e85]
    refine ⟨hin, fun s90 h90 s98 h98 s103 h103 => ⟨rfl, Or.inr (Or.inr ⟨⟨rb_1 q1 c, rb_1 q2 c2, rb_1 q3 c3, c4', rb_1 q4 c5⟩, c6, ?_, ?_⟩)⟩⟩
    · have e90 : s90 29 10 = σ0 29 10 := by rw [h90, st2_ne (by decide), e85]
      rw [h103, st2_at, if_neg (by decide), h98, st2_at, if_pos ⟨rfl, rfl⟩, e90, i32_ac]
    · have e90 : s90 29 10 = σ0 29 10 := by rw [h90, st2_ne (by decide), e85]
      unfold mjob
      rw [h103, h98, e90, h90, h85, h79, h69, h59, h47]
  · obtain ⟨rfl, rfl⟩ := q
    exact ⟨rfl, Or.inr (Or.inl ⟨⟨rb_1 q1 c, rb_1 q2 c2, rb_1 q3 c3, c4', rb_1 q4 c5⟩, c6, rfl⟩)⟩
  · obtain ⟨rfl, rfl⟩ := q
    exact ⟨rfl, Or.inl ⟨fun z => rb_0 q4 c5 z.2.2.2.2, rfl⟩⟩
theorem c_Mo_job (l : Launch) (D : va_G) (ad : Nat → Nat) (ci cl : ClassId) : ∀ (sz : Nat) (σ0 : MI) (τ0 : ML) (a1 : Int32) (a2 : Int32) (a3 : Int32) (a4 : Int32) (a5 : Int32), P_Mo_job σ0 τ0 a1 a2 a3 a4 a5 → gMi l D (xw ad ci cl) (xt ci cl) (xa ad) y_Mo_job w_Mo_job rm_Mo_job [.ref (ad 29), .int a1, .int a2, .int a3, .int a4, .int a5] sz σ0 τ0 (Q_Mo_job σ0 τ0 a1 a2 a3 a4 a5) :=
  k_Mo_job l D ad ci cl P_Mo_job Q_Mo_job P_Mo_in Q_Mo_in P_Mo_refuse Q_Mo_refuse P_Mo_isSpan Q_Mo_isSpan P_Mo_isPlace Q_Mo_isPlace (c_Mo_in l D ad ci cl) (c_Mo_refuse l D ad ci cl) (c_Mo_isSpan l D ad ci cl) (c_Mo_isPlace l D ad ci cl) v_Mo_job_0
def P_Mo_travels (σ : MI) (τ : ML) (a1 a2 a3 : Int32) : Prop := True
def Q_Mo_travels (σ : MI) (τ : ML) (a1 a2 a3 r : Int32) (σ' : MI) (τ' : ML) : Prop := τ = τ' ∧ ((tvok a1 a2 a3 ∧ r = 1 ∧ σ' = st2 (st2 (st2 (st2 σ 29 0 0) 42 (a1.toInt * 5 + a2.toInt).toNat a3) 42 (a2.toInt * 5 + a1.toInt).toNat a3) 29 18 0) ∨ (¬ tvok a1 a2 a3 ∧ r = 0 ∧ σ' = st2 σ 29 0 0))
theorem v_Mo_travels_0 (σ0 : MI) (τ0 : ML) (a1 : Int32) (a2 : Int32) (a3 : Int32) (h : P_Mo_travels σ0 τ0 a1 a2 a3) : s_Mo_travels_0 P_Mo_isPlace Q_Mo_isPlace P_Mo_in Q_Mo_in σ0 τ0 a1 a2 a3 (Q_Mo_travels σ0 τ0 a1 a2 a3) := by
  unfold s_Mo_travels_0
  intro s2 h2
  refine ⟨trivial, fun r1 s1 t1 q => ?_⟩
  obtain ⟨rfl, rfl, h1⟩ := q
  refine ⟨fun c => ⟨by decide, rfl, Or.inr ⟨fun z => rb_0 h1 c z.1, rfl, h2⟩⟩, fun c => ⟨trivial, fun r8 s8 t8 q => ?_⟩⟩
  obtain ⟨rfl, rfl, hb⟩ := q
  refine ⟨fun c2 => ⟨by decide, rfl, Or.inr ⟨fun z => rb_0 hb c2 z.2.1, rfl, h2⟩⟩, fun c2 => ⟨fun c3 => ⟨by decide, rfl, Or.inr ⟨fun z => z.2.2.1 c3, rfl, h2⟩⟩, fun c3 => ⟨trivial, fun r24 s24 t24 q => ?_⟩⟩⟩
  obtain ⟨rfl, rfl, h3⟩ := q
  simp only [z_lt, z_le, zc_0, zc_1, zc_2, zc_3, zc_4, zc_5, zc_6, zc_7, zc_10, zc_100, zc_300, zc_360, zc_600, zc_2880, zc_1000000, zc_m1] at h3
  refine ⟨fun c4 => ?_, fun c4 => ⟨by decide, rfl, Or.inr ⟨fun z => rb_0 h3 c4 z.2.2.2, rfl, h2⟩⟩⟩
  have p1 := rb_1 h1 c
  have p2 := rb_1 hb c2
  rw [z_in, z_in, z_cl, z_cl, bt_ix2 ⟨p1, p2⟩, bt_ix2 ⟨p2, p1⟩]
  refine ⟨⟨by omega, by omega⟩, fun s47 h47 => ⟨⟨by omega, by omega⟩, fun s58 h58 s61 h61 => ⟨by decide, rfl, Or.inl ⟨⟨p1, p2, c3, rb_1 h3 c4⟩, rfl, ?_⟩⟩⟩⟩
  rw [h61, h58, h47, h2]
theorem c_Mo_travels (l : Launch) (D : va_G) (ad : Nat → Nat) (ci cl : ClassId) : ∀ (sz : Nat) (σ0 : MI) (τ0 : ML) (a1 : Int32) (a2 : Int32) (a3 : Int32), P_Mo_travels σ0 τ0 a1 a2 a3 → gMi l D (xw ad ci cl) (xt ci cl) (xa ad) y_Mo_travels w_Mo_travels rm_Mo_travels [.ref (ad 29), .int a1, .int a2, .int a3] sz σ0 τ0 (Q_Mo_travels σ0 τ0 a1 a2 a3) :=
  k_Mo_travels l D ad ci cl P_Mo_travels Q_Mo_travels P_Mo_isPlace Q_Mo_isPlace P_Mo_in Q_Mo_in (c_Mo_isPlace l D ad ci cl) (c_Mo_in l D ad ci cl) v_Mo_travels_0
def P_Mo_rest (σ : MI) (τ : ML) (a1 : Int32) : Prop := True
def Q_Mo_rest (σ : MI) (τ : ML) (a1 r : Int32) (σ' : MI) (τ' : ML) : Prop := τ = τ' ∧ (((0 ≤ a1.toInt ∧ a1.toInt ≤ 300) ∧ r = 1 ∧ σ' = st2 (st2 (st2 σ 29 0 0) 29 17 a1) 29 18 0) ∨ (¬ (0 ≤ a1.toInt ∧ a1.toInt ≤ 300) ∧ r = 0 ∧ σ' = st2 σ 29 0 0))
theorem v_Mo_rest_0 (σ0 : MI) (τ0 : ML) (a1 : Int32) (h : P_Mo_rest σ0 τ0 a1) : s_Mo_rest_0 P_Mo_in Q_Mo_in σ0 τ0 a1 (Q_Mo_rest σ0 τ0 a1) := by
  unfold s_Mo_rest_0
  intro s2 h2
  refine ⟨trivial, fun r1 s1 t1 q => ?_⟩
  obtain ⟨rfl, rfl, h1⟩ := q
  simp only [z_lt, z_le, zc_0, zc_1, zc_2, zc_3, zc_4, zc_5, zc_6, zc_7, zc_10, zc_100, zc_300, zc_360, zc_600, zc_2880, zc_1000000, zc_m1] at h1
  exact ⟨fun c s18 h18 s26 h26 => ⟨by decide, rfl, Or.inl ⟨rb_1 h1 c, rfl, by rw [h26, h18, h2]⟩⟩, fun c => ⟨by decide, rfl, Or.inr ⟨rb_0 h1 c, rfl, h2⟩⟩⟩
theorem c_Mo_rest (l : Launch) (D : va_G) (ad : Nat → Nat) (ci cl : ClassId) : ∀ (sz : Nat) (σ0 : MI) (τ0 : ML) (a1 : Int32), P_Mo_rest σ0 τ0 a1 → gMi l D (xw ad ci cl) (xt ci cl) (xa ad) y_Mo_rest w_Mo_rest rm_Mo_rest [.ref (ad 29), .int a1] sz σ0 τ0 (Q_Mo_rest σ0 τ0 a1) :=
  k_Mo_rest l D ad ci cl P_Mo_rest Q_Mo_rest P_Mo_in Q_Mo_in (c_Mo_in l D ad ci cl) v_Mo_rest_0
def P_Mo_rule (σ : MI) (τ : ML) (a1 a2 : Int32) : Prop := Vd (vm σ)
def muok (σ : MI) (a1 a2 : Int32) : Prop := (0 ≤ a1.toInt ∧ a1.toInt < (σ 29 1).toInt) ∧ (0 ≤ a2.toInt ∧ a2.toInt ≤ 4)
def Q_Mo_rule (σ : MI) (τ : ML) (a1 a2 r : Int32) (σ' : MI) (τ' : ML) : Prop := τ = τ' ∧ ((muok σ a1 a2 ∧ r = 1 ∧ σ' = st2 (st2 (st2 σ 29 0 0) 34 a1.toNatClampNeg a2) 29 18 0) ∨ (¬ muok σ a1 a2 ∧ r = 0 ∧ σ' = st2 σ 29 0 0))
theorem v_Mo_rule_0 (σ0 : MI) (τ0 : ML) (a1 : Int32) (a2 : Int32) (h : P_Mo_rule σ0 τ0 a1 a2) : s_Mo_rule_0 P_Mo_isPerson Q_Mo_isPerson P_Mo_in Q_Mo_in σ0 τ0 a1 a2 (Q_Mo_rule σ0 τ0 a1 a2) := by
  unfold s_Mo_rule_0
  intro s2 h2
  have e2 : s2 29 1 = σ0 29 1 := by rw [h2]; rfl
  refine ⟨trivial, fun r1 s1 t1 q => ?_⟩
  obtain ⟨rfl, rfl, h1⟩ := q
  rw [e2] at h1
  refine ⟨fun c => ⟨by decide, rfl, Or.inr ⟨fun z => rb_0 h1 c z.1, rfl, h2⟩⟩, fun c => ⟨trivial, fun r8 s8 t8 q => ?_⟩⟩
  obtain ⟨rfl, rfl, hb⟩ := q
  simp only [z_lt, z_le, zc_0, zc_1, zc_2, zc_3, zc_4, zc_5, zc_6, zc_7, zc_10, zc_100, zc_300, zc_360, zc_600, zc_2880, zc_1000000, zc_m1] at hb
  have hp := rb_1 h1 c
  have h4 := h.1
  simp only [vm] at h4
  exact ⟨fun c2 => ⟨z_in.mpr ⟨hp.1, by omega⟩, fun s24 h24 s36 h36 => ⟨by decide, rfl, Or.inl ⟨⟨hp, rb_1 hb c2⟩, rfl, by rw [h36, h24, h2]⟩⟩⟩, fun c2 => ⟨by decide, rfl, Or.inr ⟨fun z => rb_0 hb c2 z.2, rfl, h2⟩⟩⟩
theorem c_Mo_rule (l : Launch) (D : va_G) (ad : Nat → Nat) (ci cl : ClassId) : ∀ (sz : Nat) (σ0 : MI) (τ0 : ML) (a1 : Int32) (a2 : Int32), P_Mo_rule σ0 τ0 a1 a2 → gMi l D (xw ad ci cl) (xt ci cl) (xa ad) y_Mo_rule w_Mo_rule rm_Mo_rule [.ref (ad 29), .int a1, .int a2] sz σ0 τ0 (Q_Mo_rule σ0 τ0 a1 a2) :=
  k_Mo_rule l D ad ci cl P_Mo_rule Q_Mo_rule P_Mo_isPerson Q_Mo_isPerson P_Mo_in Q_Mo_in (c_Mo_isPerson l D ad ci cl) (c_Mo_in l D ad ci cl) v_Mo_rule_0
def shok (a1 a2 : Int32) : Prop := (0 ≤ a1.toInt ∧ a1.toInt ≤ 1000000) ∧ (0 ≤ a2.toInt ∧ a2.toInt ≤ 1000000)
def P_Mo_share (σ : MI) (τ : ML) (a1 a2 : Int32) : Prop := True
def Q_Mo_share (σ : MI) (τ : ML) (a1 a2 r : Int32) (σ' : MI) (τ' : ML) : Prop := τ = τ' ∧ ((¬ shok a1 a2 ∧ σ' = st2 σ 29 0 1) ∨ (shok a1 a2 ∧ a2 = 0 ∧ σ' = st2 σ 29 0 2) ∨ (shok a1 a2 ∧ a2 ≠ 0 ∧ r = 100 * a1 / a2 ∧ σ' = st2 σ 29 0 0))
theorem v_Mo_share_0 (σ0 : MI) (τ0 : ML) (a1 : Int32) (a2 : Int32) (h : P_Mo_share σ0 τ0 a1 a2) : s_Mo_share_0 P_Mo_in Q_Mo_in σ0 τ0 a1 a2 (Q_Mo_share σ0 τ0 a1 a2) := by
  unfold s_Mo_share_0
  refine ⟨trivial, fun r3 s3 t3 q => ?_⟩
  obtain ⟨rfl, rfl, q1⟩ := q
  simp only [z_lt, z_le, zc_0, zc_1, zc_2, zc_3, zc_4, zc_5, zc_6, zc_7, zc_10, zc_100, zc_300, zc_360, zc_600, zc_2880, zc_1000000, zc_m1] at q1
  refine ⟨fun c s34 h34 => ?_, fun c => ⟨trivial, fun r15 s15 t15 q => ?_⟩⟩
  · unfold s_Mo_share_37
    have e : s34 29 0 = 1 := by rw [h34, st2_at, if_pos ⟨rfl, rfl⟩]
    rw [e]
    exact ⟨fun z => absurd z (by decide), fun _ => ⟨rfl, Or.inl ⟨fun z => rb_0 q1 c z.1, h34⟩⟩⟩
  obtain ⟨rfl, rfl, q2⟩ := q
  simp only [z_lt, z_le, zc_0, zc_1, zc_2, zc_3, zc_4, zc_5, zc_6, zc_7, zc_10, zc_100, zc_300, zc_360, zc_600, zc_2880, zc_1000000, zc_m1] at q2
  refine ⟨fun c2 => ⟨fun c3 s34 h34 => ?_, fun c3 s34 h34 => ?_⟩, fun c2 s34 h34 => ?_⟩
  · unfold s_Mo_share_37
    have e : s34 29 0 = 0 := by rw [h34, st2_at, if_pos ⟨rfl, rfl⟩]
    rw [e]
    exact ⟨fun _ => ⟨c3, rfl, Or.inr (Or.inr ⟨⟨rb_1 q1 c, rb_1 q2 c2⟩, c3, rfl, h34⟩)⟩, fun z => absurd (by decide) z⟩
  · unfold s_Mo_share_37
    have e : s34 29 0 = 2 := by rw [h34, st2_at, if_pos ⟨rfl, rfl⟩]
    rw [e]
    exact ⟨fun z => absurd z (by decide), fun _ => ⟨rfl, Or.inr (Or.inl ⟨⟨rb_1 q1 c, rb_1 q2 c2⟩, c3, h34⟩)⟩⟩
  · unfold s_Mo_share_37
    have e : s34 29 0 = 1 := by rw [h34, st2_at, if_pos ⟨rfl, rfl⟩]
    rw [e]
    exact ⟨fun z => absurd z (by decide), fun _ => ⟨rfl, Or.inl ⟨fun z => rb_0 q2 c2 z.2, h34⟩⟩⟩
theorem c_Mo_share (l : Launch) (D : va_G) (ad : Nat → Nat) (ci cl : ClassId) : ∀ (sz : Nat) (σ0 : MI) (τ0 : ML) (a1 : Int32) (a2 : Int32), P_Mo_share σ0 τ0 a1 a2 → gMi l D (xw ad ci cl) (xt ci cl) (xa ad) y_Mo_share w_Mo_share rm_Mo_share [.ref (ad 29), .int a1, .int a2] sz σ0 τ0 (Q_Mo_share σ0 τ0 a1 a2) :=
  k_Mo_share l D ad ci cl P_Mo_share Q_Mo_share P_Mo_in Q_Mo_in (c_Mo_in l D ad ci cl) v_Mo_share_0
