def nIA : String := "java/lang/IllegalArgumentException"
def nIS : String := "java/lang/IllegalStateException"
def nIO : String := "java/lang/IndexOutOfBoundsException"
def nAR : String := "java/lang/ArithmeticException"
def addp (σ : MI) (a1 a2 a3 a4 : Int32) : MI := st2 (st2 (st2 (st2 (st2 σ 2 (σ 1 0).toNatClampNeg a1) 3 (σ 1 0).toNatClampNeg a2) 4 (σ 1 0).toNatClampNeg a3) 5 (σ 1 0).toNatClampNeg a4) 1 0 (σ 1 0 + 1)
def P_PT_person (σ : MI) (τ : ML) (a1 a2 a3 a4 : Int32) : Prop := Vd (vx σ)
def Q_PT_person (σ : MI) (τ : ML) (a1 a2 a3 a4 r : Int32) (σ' : MI) (τ' : ML) : Prop := pok a1 a2 a3 a4 ∧ σ 1 0 ≠ 4 ∧ r = σ 1 0 ∧ τ = τ' ∧ σ' = addp (st2 σ 22 0 0) a1 a2 a3 a4
def Z_PT_person (σ : MI) (τ : ML) (a1 a2 a3 a4 : Int32) (nm : String) (σ' : MI) (τ' : ML) : Prop := σ = σ' ∧ τ = τ' ∧ ((¬ pok a1 a2 a3 a4 ∧ nm = nIA) ∨ (pok a1 a2 a3 a4 ∧ σ 1 0 = 4 ∧ nm = nIS))
theorem v_PT_person_0 (σ0 : MI) (τ0 : ML) (a1 : Int32) (a2 : Int32) (a3 : Int32) (a4 : Int32) (h : P_PT_person σ0 τ0 a1 a2 a3 a4) : s_PT_person_0 P_PT_isLicence Q_PT_isLicence P_PT_isSpan Q_PT_isSpan P_PT_isPlace Q_PT_isPlace P_People_add Q_People_add σ0 τ0 a1 a2 a3 a4 (Q_PT_person σ0 τ0 a1 a2 a3 a4) (Z_PT_person σ0 τ0 a1 a2 a3 a4) := by
  have hd : Vd (vx σ0) := h
  have h4 := hd.1
  have e1 : vx σ0 1 0 = (σ0 1 0).toInt := rfl
  rw [e1] at h4
  unfold s_PT_person_0
  refine ⟨trivial, fun r1 s1 t1 q1 => ?_⟩
  obtain ⟨rfl, rfl, q1⟩ := q1
  refine ⟨fun c => ⟨rfl, rfl, Or.inl ⟨fun z => rb_0 q1 c z.1, rfl⟩⟩, fun c => ⟨trivial, fun r9 s9 t9 q9 => ?_⟩⟩
  obtain ⟨rfl, rfl, q9⟩ := q9
  refine ⟨fun c2 => ⟨rfl, rfl, Or.inl ⟨fun z => rb_0 q9 c2 z.2.1, rfl⟩⟩, fun c2 => ⟨trivial, fun r17 s17 t17 q17 => ?_⟩⟩
  obtain ⟨rfl, rfl, q17⟩ := q17
  refine ⟨fun c3 => ⟨fun c4 s59 h59 => ?_, fun c4 => ⟨rfl, rfl, Or.inr ⟨⟨rb_1 q1 c, rb_1 q9 c2, rb_1 q17 c3⟩, ?_, rfl⟩⟩⟩, fun c3 => ⟨rfl, rfl, Or.inl ⟨fun z => rb_0 q17 c3 z.2.2, rfl⟩⟩⟩
  · have e59 : s59 1 0 = σ0 1 0 := by rw [h59, st2_ne (by decide)]
    rw [z_lt, zc_4] at c4
    refine ⟨by show vp_in (s59 1 0) 4; rw [e59, z_in]; omega, fun r71 s71 t71 q71 => ?_⟩
    obtain ⟨rfl, rfl, rfl⟩ := q71
    refine ⟨⟨rb_1 q1 c, rb_1 q9 c2, rb_1 q17 c3⟩, ?_, e59, rfl, by rw [h59]; rfl⟩
    intro z; rw [z_eq, zc_4] at z; omega
  · rw [z_lt, zc_4] at c4
    rw [z_eq, zc_4]; omega
theorem c_PT_person (l : Launch) (hlt : l.flags = flags0) (D : va_G) (ad : Nat → Nat) (ci cl : ClassId) : ∀ (sz : Nat) (σ0 : MI) (τ0 : ML) (a1 : Int32) (a2 : Int32) (a3 : Int32) (a4 : Int32), P_PT_person σ0 τ0 a1 a2 a3 a4 → gMx l D (xw ad ci cl) (xt ci cl) (xa ad) y_PT_person w_PT_person rm_PT_person [.ref (ad 0), .int a1, .int a2, .int a3, .int a4] sz σ0 τ0 (Q_PT_person σ0 τ0 a1 a2 a3 a4) (Z_PT_person σ0 τ0 a1 a2 a3 a4) :=
  k_PT_person l hlt D ad ci cl P_PT_person Q_PT_person Z_PT_person P_PT_isLicence Q_PT_isLicence P_PT_isSpan Q_PT_isSpan P_PT_isPlace Q_PT_isPlace P_People_add Q_People_add (c_PT_isLicence l D ad ci cl) (c_PT_isSpan l D ad ci cl) (c_PT_isPlace l D ad ci cl) (c_People_add l D ad ci cl) v_PT_person_0
def addt (σ : MI) (a1 : Int32) : MI := st2 (st2 σ 16 (σ 15 0).toNatClampNeg a1) 15 0 (σ 15 0 + 1)
def P_PT_tug (σ : MI) (τ : ML) (a1 : Int32) : Prop := Vd (vx σ)
def Q_PT_tug (σ : MI) (τ : ML) (a1 r : Int32) (σ' : MI) (τ' : ML) : Prop := tok a1 ∧ σ 15 0 ≠ 6 ∧ r = σ 15 0 ∧ τ = τ' ∧ σ' = addt (st2 σ 22 0 0) a1
def Z_PT_tug (σ : MI) (τ : ML) (a1 : Int32) (nm : String) (σ' : MI) (τ' : ML) : Prop := σ = σ' ∧ τ = τ' ∧ ((¬ tok a1 ∧ nm = nIA) ∨ (tok a1 ∧ σ 15 0 = 6 ∧ nm = nIS))
theorem v_PT_tug_0 (σ0 : MI) (τ0 : ML) (a1 : Int32) (h : P_PT_tug σ0 τ0 a1) : s_PT_tug_0 P_PT_isWithin Q_PT_isWithin P_Tugs_add Q_Tugs_add σ0 τ0 a1 (Q_PT_tug σ0 τ0 a1) (Z_PT_tug σ0 τ0 a1) := by
  have hd : Vd (vx σ0) := h
  have h4 := hd.2.2.1
  have e1 : vx σ0 15 0 = (σ0 15 0).toInt := rfl
  rw [e1] at h4
  unfold s_PT_tug_0
  refine ⟨trivial, fun r1 s1 t1 q1 => ?_⟩
  obtain ⟨rfl, rfl, q1⟩ := q1
  rw [zc_1, zc_100] at q1
  refine ⟨fun c => ⟨fun c4 s59 h59 => ?_, fun c4 => ⟨rfl, rfl, Or.inr ⟨rb_1 q1 c, ?_, rfl⟩⟩⟩, fun c => ⟨rfl, rfl, Or.inl ⟨rb_0 q1 c, rfl⟩⟩⟩
  · have e59 : s59 15 0 = σ0 15 0 := by rw [h59, st2_ne (by decide)]
    rw [z_lt, zc_6] at c4
    refine ⟨by show vp_in (s59 15 0) 6; rw [e59, z_in]; omega, fun r71 s71 t71 q71 => ?_⟩
    obtain ⟨rfl, rfl, rfl⟩ := q71
    refine ⟨rb_1 q1 c, ?_, e59, rfl, by rw [h59]; rfl⟩
    intro z; rw [z_eq, zc_6] at z; omega
  · rw [z_lt, zc_6] at c4
    rw [z_eq, zc_6]; omega
theorem c_PT_tug (l : Launch) (hlt : l.flags = flags0) (D : va_G) (ad : Nat → Nat) (ci cl : ClassId) : ∀ (sz : Nat) (σ0 : MI) (τ0 : ML) (a1 : Int32), P_PT_tug σ0 τ0 a1 → gMx l D (xw ad ci cl) (xt ci cl) (xa ad) y_PT_tug w_PT_tug rm_PT_tug [.ref (ad 0), .int a1] sz σ0 τ0 (Q_PT_tug σ0 τ0 a1) (Z_PT_tug σ0 τ0 a1) :=
  k_PT_tug l hlt D ad ci cl P_PT_tug Q_PT_tug Z_PT_tug P_PT_isWithin Q_PT_isWithin P_Tugs_add Q_Tugs_add (c_PT_isWithin l D ad ci cl) (c_Tugs_add l D ad ci cl) v_PT_tug_0
def addj (σ : MI) (a1 a2 a3 a4 a5 : Int32) : MI := st2 (st2 (st2 (st2 (st2 (st2 σ 9 (σ 8 0).toNatClampNeg a1) 10 (σ 8 0).toNatClampNeg a2) 11 (σ 8 0).toNatClampNeg a3) 12 (σ 8 0).toNatClampNeg a4) 13 (σ 8 0).toNatClampNeg a5) 8 0 (σ 8 0 + 1)
def P_PT_job (σ : MI) (τ : ML) (a1 a2 a3 a4 a5 : Int32) : Prop := Vd (vx σ)
def Q_PT_job (σ : MI) (τ : ML) (a1 a2 a3 a4 a5 r : Int32) (σ' : MI) (τ' : ML) : Prop := jok a1 a2 a3 a4 a5 ∧ σ 8 0 ≠ 7 ∧ r = σ 8 0 ∧ τ = τ' ∧ σ' = addj (st2 σ 22 0 0) a1 a2 a3 a4 a5
def Z_PT_job (σ : MI) (τ : ML) (a1 a2 a3 a4 a5 : Int32) (nm : String) (σ' : MI) (τ' : ML) : Prop := σ = σ' ∧ τ = τ' ∧ ((¬ jok a1 a2 a3 a4 a5 ∧ nm = nIA) ∨ (jok a1 a2 a3 a4 a5 ∧ σ 8 0 = 7 ∧ nm = nIS))
theorem v_PT_job_0 (σ0 : MI) (τ0 : ML) (a1 : Int32) (a2 : Int32) (a3 : Int32) (a4 : Int32) (a5 : Int32) (h : P_PT_job σ0 τ0 a1 a2 a3 a4 a5) : s_PT_job_0 P_PT_isLicence Q_PT_isLicence P_PT_isWithin Q_PT_isWithin P_PT_isPlace Q_PT_isPlace P_PT_isSpan Q_PT_isSpan P_Jobs_add Q_Jobs_add σ0 τ0 a1 a2 a3 a4 a5 (Q_PT_job σ0 τ0 a1 a2 a3 a4 a5) (Z_PT_job σ0 τ0 a1 a2 a3 a4 a5) := by
  have hd : Vd (vx σ0) := h
  have h4 := hd.2.1
  have e1 : vx σ0 8 0 = (σ0 8 0).toInt := rfl
  rw [e1] at h4
  unfold s_PT_job_0
  refine ⟨trivial, fun r1 s1 t1 q1 => ?_⟩
  obtain ⟨rfl, rfl, q1⟩ := q1
  refine ⟨fun c => ⟨rfl, rfl, Or.inl ⟨fun z => rb_0 q1 c z.1, rfl⟩⟩, fun c => ⟨trivial, fun r12 s12 t12 q12 => ?_⟩⟩
  obtain ⟨rfl, rfl, q12⟩ := q12
  rw [zc_0, zc_300] at q12
  refine ⟨fun c2 => ⟨rfl, rfl, Or.inl ⟨fun z => rb_0 q12 c2 z.2.1, rfl⟩⟩, fun c2 => ⟨trivial, fun r20 s20 t20 q20 => ?_⟩⟩
  obtain ⟨rfl, rfl, q20⟩ := q20
  refine ⟨fun c3 => ⟨trivial, fun r39 s39 t39 q39 => ?_⟩, fun c3 => ⟨rfl, rfl, Or.inl ⟨fun z => rb_0 q20 c3 z.2.2.2.2, rfl⟩⟩⟩
  obtain ⟨rfl, rfl, q39⟩ := q39
  refine ⟨fun c4 => ⟨rfl, rfl, Or.inl ⟨fun z => rb_0 q39 c4 z.2.2.1, rfl⟩⟩, fun c4 => ?_⟩
  have hsp := rb_1 q39 c4
  rw [z_le, span_sub hsp, zc_600]
  refine ⟨fun c5 => ⟨fun c6 s59 h59 => ?_, fun c6 => ⟨rfl, rfl, Or.inr ⟨⟨rb_1 q1 c, rb_1 q12 c2, hsp, c5, rb_1 q20 c3⟩, ?_, rfl⟩⟩⟩, fun c5 => ⟨rfl, rfl, Or.inl ⟨fun z => c5 z.2.2.2.1, rfl⟩⟩⟩
  · have e59 : s59 8 0 = σ0 8 0 := by rw [h59, st2_ne (by decide)]
    rw [z_lt, zc_7] at c6
    refine ⟨by show vp_in (s59 8 0) 7; rw [e59, z_in]; omega, fun r71 s71 t71 q71 => ?_⟩
    obtain ⟨rfl, rfl, rfl⟩ := q71
    refine ⟨⟨rb_1 q1 c, rb_1 q12 c2, hsp, c5, rb_1 q20 c3⟩, ?_, e59, rfl, by rw [h59]; rfl⟩
    intro z; rw [z_eq, zc_7] at z; omega
  · rw [z_lt, zc_7] at c6
    rw [z_eq, zc_7]; omega
theorem c_PT_job (l : Launch) (hlt : l.flags = flags0) (D : va_G) (ad : Nat → Nat) (ci cl : ClassId) : ∀ (sz : Nat) (σ0 : MI) (τ0 : ML) (a1 : Int32) (a2 : Int32) (a3 : Int32) (a4 : Int32) (a5 : Int32), P_PT_job σ0 τ0 a1 a2 a3 a4 a5 → gMx l D (xw ad ci cl) (xt ci cl) (xa ad) y_PT_job w_PT_job rm_PT_job [.ref (ad 0), .int a1, .int a2, .int a3, .int a4, .int a5] sz σ0 τ0 (Q_PT_job σ0 τ0 a1 a2 a3 a4 a5) (Z_PT_job σ0 τ0 a1 a2 a3 a4 a5) :=
  k_PT_job l hlt D ad ci cl P_PT_job Q_PT_job Z_PT_job P_PT_isLicence Q_PT_isLicence P_PT_isWithin Q_PT_isWithin P_PT_isPlace Q_PT_isPlace P_PT_isSpan Q_PT_isSpan P_Jobs_add Q_Jobs_add (c_PT_isLicence l D ad ci cl) (c_PT_isWithin l D ad ci cl) (c_PT_isPlace l D ad ci cl) (c_PT_isSpan l D ad ci cl) (c_Jobs_add l D ad ci cl) v_PT_job_0
def P_PT_share (σ : MI) (τ : ML) (a1 a2 : Int32) : Prop := True
def Q_PT_share (σ : MI) (τ : ML) (a1 a2 r : Int32) (σ' : MI) (τ' : ML) : Prop := shok a1 a2 ∧ a2 ≠ 0 ∧ r = 100 * a1 / a2 ∧ τ = τ' ∧ σ = σ'
def Z_PT_share (σ : MI) (τ : ML) (a1 a2 : Int32) (nm : String) (σ' : MI) (τ' : ML) : Prop := σ = σ' ∧ τ = τ' ∧ ((¬ shok a1 a2 ∧ nm = nIA) ∨ (shok a1 a2 ∧ a2 = 0 ∧ nm = nAR))
theorem v_PT_share_0 (σ0 : MI) (τ0 : ML) (a1 : Int32) (a2 : Int32) (h : P_PT_share σ0 τ0 a1 a2) : s_PT_share_0 P_PT_isWithin Q_PT_isWithin σ0 τ0 a1 a2 (Q_PT_share σ0 τ0 a1 a2) (Z_PT_share σ0 τ0 a1 a2) := by
  unfold s_PT_share_0
  refine ⟨trivial, fun r1 s1 t1 q1 => ?_⟩
  obtain ⟨rfl, rfl, q1⟩ := q1
  rw [zc_0, zc_1000000] at q1
  refine ⟨fun c => ⟨rfl, rfl, Or.inl ⟨fun z => rb_0 q1 c z.1, rfl⟩⟩, fun c => ⟨trivial, fun r12 s12 t12 q12 => ?_⟩⟩
  obtain ⟨rfl, rfl, q12⟩ := q12
  rw [zc_0, zc_1000000] at q12
  exact ⟨fun c2 => ⟨fun c3 => ⟨c3, ⟨rb_1 q1 c, rb_1 q12 c2⟩, c3, rfl, rfl, rfl⟩, fun c3 => ⟨rfl, rfl, Or.inr ⟨⟨rb_1 q1 c, rb_1 q12 c2⟩, c3, rfl⟩⟩⟩, fun c2 => ⟨rfl, rfl, Or.inl ⟨fun z => rb_0 q12 c2 z.2, rfl⟩⟩⟩
theorem c_PT_share (l : Launch) (hlt : l.flags = flags0) (D : va_G) (ad : Nat → Nat) (ci cl : ClassId) : ∀ (sz : Nat) (σ0 : MI) (τ0 : ML) (a1 : Int32) (a2 : Int32), P_PT_share σ0 τ0 a1 a2 → gMx l D (xw ad ci cl) (xt ci cl) (xa ad) y_PT_share w_PT_share rm_PT_share [.ref (ad 0), .int a1, .int a2] sz σ0 τ0 (Q_PT_share σ0 τ0 a1 a2) (Z_PT_share σ0 τ0 a1 a2) :=
  k_PT_share l hlt D ad ci cl P_PT_share Q_PT_share Z_PT_share P_PT_isWithin Q_PT_isWithin (c_PT_isWithin l D ad ci cl) v_PT_share_0
def P_PT_of (σ : MI) (τ : ML) (a1 a2 : Int32) : Prop := Vd (vx σ) ∧ (σ 22 0 ≠ 0 → PLX σ)
def Q_PT_of (σ : MI) (τ : ML) (a1 a2 r : Int32) (σ' : MI) (τ' : ML) : Prop := ofok (σ 8 0).toInt a1 a2 ∧ σ 22 0 ≠ 0 ∧ OfA (vx σ) (adx σ) (tgx σ) a1.toNatClampNeg a2 r ∧ σ = σ' ∧ τ = τ'
def Z_PT_of (σ : MI) (τ : ML) (a1 a2 : Int32) (nm : String) (σ' : MI) (τ' : ML) : Prop := σ = σ' ∧ τ = τ' ∧ ((¬ ofok (σ 8 0).toInt a1 a2 ∧ nm = nIO) ∨ (ofok (σ 8 0).toInt a1 a2 ∧ σ 22 0 = 0 ∧ nm = nIS))
theorem PLX_tgx {σ : MI} (hd : Vd (vx σ)) (h : PLX σ) : tgs (vx σ) (od (vx σ) (nJ (vx σ))) (adx σ) (nJ (vx σ)) (tgx σ) ∧ (∀ j, j < nJ (vx σ) → σ 25 j = nI (tgx σ j)) ∧ ∀ j, j < nJ (vx σ) → σ 26 j = if adx σ j ≠ 4 ∧ 0 < vx σ 10 j ∧ tgx σ j = 0 then 1 else 0 := by
  obtain ⟨-, -, -, -, -, -, -, t, h1, h2, h3⟩ := h
  have hlt := tgs_lt _ _ h1
  have hp64 : 2 ^ nT (vx σ) ≤ 2 ^ 6 := Nat.pow_le_pow_right (by decide) hd.nTl.1
  have e : ∀ j, j < nJ (vx σ) → tgx σ j = t j := fun j hj => by
    unfold tgx
    rw [h2 j hj, nI_clamp (by have := hlt j hj; omega)]
  refine ⟨?_, fun j hj => by rw [e j hj]; exact h2 j hj, fun j hj => by rw [e j hj]; exact h3 j hj⟩
  have hgen : ∀ k u v, (∀ j, j < nJ (vx σ) → u j = v j) → tgs (vx σ) (od (vx σ) (nJ (vx σ))) (adx σ) k v → k ≤ nJ (vx σ) → tgs (vx σ) (od (vx σ) (nJ (vx σ))) (adx σ) k u := by
    intro k
    cases k with
    | zero => intro u v huv hv _ j hj; rw [huv j hj]; exact hv j hj
    | succ k =>
      intro u v huv ⟨w, hw, hv⟩ hk
      refine ⟨w, hw, ?_⟩
      rcases hv with ⟨a1, a2, a3, a4⟩ | ⟨a1, a2⟩
      · refine Or.inl ⟨a1, a2, fun j hj hne => by rw [huv j hj]; exact a3 j hj hne, ?_⟩
        rw [huv _ ((od_ok _ _).1 k (by omega))]; exact a4
      · exact Or.inr ⟨a1, fun j hj => by rw [huv j hj]; exact a2 j hj⟩
  exact hgen _ _ _ e h1 (Nat.le_refl _)
theorem v_PT_of_0 (σ0 : MI) (τ0 : ML) (a1 : Int32) (a2 : Int32) (h : P_PT_of σ0 τ0 a1 a2) : s_PT_of_0 P_PT_isJob Q_PT_isJob P_PT_isWithin Q_PT_isWithin P_PT_whyNobody Q_PT_whyNobody σ0 τ0 a1 a2 (Q_PT_of σ0 τ0 a1 a2) (Z_PT_of σ0 τ0 a1 a2) := by
  obtain ⟨hd, hL⟩ := id h
  have hn := hd.nJl
  have e8 := vx_8 hd
  unfold s_PT_of_0
  refine ⟨hd, fun r2 s2 t2 q2 => ?_⟩
  obtain ⟨rfl, rfl, q2⟩ := q2
  refine ⟨fun c => ⟨rfl, rfl, Or.inl ⟨fun z => rb_0 q2 c z.1, rfl⟩⟩, fun c => ⟨trivial, fun r11 s11 t11 q11 => ?_⟩⟩
  obtain ⟨rfl, rfl, q11⟩ := q11
  rw [zc_0, zc_4] at q11
  have hj := rb_1 q2 c
  refine ⟨fun c2 => ⟨fun c3 => ?_, fun c3 => ⟨rfl, rfl, Or.inr ⟨⟨hj, rb_1 q11 c2⟩, c3, rfl⟩⟩⟩, fun c2 => ⟨rfl, rfl, Or.inl ⟨fun z => rb_0 q11 c2 z.2, rfl⟩⟩⟩
  have hok : ofok (σ0 8 0).toInt a1 a2 := ⟨hj, rb_1 q11 c2⟩
  have hPL := hL c3
  obtain ⟨g1, g2, g3⟩ := PLX_tgx hd hPL
  obtain ⟨j, hjn, rfl⟩ : ∃ j, j < nJ (vx σ0) ∧ a1 = nI j := by
    rw [e8, z_nI (by omega)] at hj
    exact ⟨a1.toInt.toNat, by omega, z_of hj.1⟩
  have hcj : (nI j).toNatClampNeg = j := nI_clamp (by omega)
  have hj7 : vp_in (nI j) 7 := vp_in_nI (by omega) (by decide)
  have hA := hPL.2.1 j hjn
  have hend : ∀ r, OfA (vx σ0) (adx σ0) (tgx σ0) j a2 r → Q_PT_of σ0 τ0 (nI j) a2 r σ0 τ0 := fun r hr => ⟨hok, c3, by rw [hcj]; exact hr, rfl, rfl⟩
  rw [hcj]
  refine ⟨fun e => ⟨hj7, hend _ ⟨fun _ => hA.1, fun z => absurd (e.symm.trans z) (by decide), fun z => absurd (e.symm.trans z) (by decide), fun z => absurd (e.symm.trans z) (by decide), fun z => absurd (e.symm.trans z) (by decide)⟩⟩, fun e0 => ⟨fun e => ⟨hj7, hend _ ⟨fun z => absurd (e.symm.trans z) (by decide), fun _ => ?_, fun z => absurd (e.symm.trans z) (by decide), fun z => absurd (e.symm.trans z) (by decide), fun z => absurd (e.symm.trans z) (by decide)⟩⟩, fun e1 => ⟨fun e => ⟨hj7, hend _ ⟨fun z => absurd (e.symm.trans z) (by decide), fun z => absurd (e.symm.trans z) (by decide), fun _ => g2 j hjn, fun z => absurd (e.symm.trans z) (by decide), fun z => absurd (e.symm.trans z) (by decide)⟩⟩, fun e2 => ⟨fun e => ⟨hj7, hend _ ⟨fun z => absurd (e.symm.trans z) (by decide), fun z => absurd (e.symm.trans z) (by decide), fun z => absurd (e.symm.trans z) (by decide), fun _ => g3 j hjn, fun z => absurd (e.symm.trans z) (by decide)⟩⟩, fun e3 => ⟨⟨hd, hPL, hj7, by rw [hcj]; exact hjn⟩, fun r122 s122 t122 q122 => ?_⟩⟩⟩⟩⟩
  · obtain ⟨l, hl, rfl⟩ := (od_ok (vx σ0) (nJ (vx σ0))).2.2 j hjn
    exact ⟨l, hl, rfl, hPL.2.2.2.2.2.2.1 l hl⟩
  · obtain ⟨rfl, rfl, hw⟩ := q122
    rw [hcj] at hw
    exact hend _ ⟨fun z => absurd z e0, fun z => absurd z e1, fun z => absurd z e2, fun z => absurd z e3, fun _ => hw⟩
theorem c_PT_of (l : Launch) (hlt : l.flags = flags0) (D : va_G) (ad : Nat → Nat) (ci cl : ClassId) : ∀ (sz : Nat) (σ0 : MI) (τ0 : ML) (a1 : Int32) (a2 : Int32), P_PT_of σ0 τ0 a1 a2 → gMx l D (xw ad ci cl) (xt ci cl) (xa ad) y_PT_of w_PT_of rm_PT_of [.ref (ad 0), .int a1, .int a2] sz σ0 τ0 (Q_PT_of σ0 τ0 a1 a2) (Z_PT_of σ0 τ0 a1 a2) :=
  k_PT_of l hlt D ad ci cl P_PT_of Q_PT_of Z_PT_of P_PT_isJob Q_PT_isJob P_PT_isWithin Q_PT_isWithin P_PT_whyNobody Q_PT_whyNobody (c_PT_isJob l D ad ci cl) (c_PT_isWithin l D ad ci cl) (c_PT_whyNobody l D ad ci cl) v_PT_of_0
