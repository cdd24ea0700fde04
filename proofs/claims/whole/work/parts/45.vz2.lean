def P_PT_day (σ : MI) (τ : ML) (a1 a2 : Int32) : Prop := Vd (vx σ) ∧ (σ 22 0 ≠ 0 → PLX σ)
def Q_PT_day (σ : MI) (τ : ML) (a1 a2 r : Int32) (σ' : MI) (τ' : ML) : Prop := inP (σ 1 0).toInt a1 ∧ σ 22 0 ≠ 0 ∧ DayA (od (vx σ) (nJ (vx σ))) (adx σ) (nJ (vx σ)) a1.toNatClampNeg a2 r ∧ σ = σ' ∧ τ = τ'
def Z_PT_day (σ : MI) (τ : ML) (a1 a2 : Int32) (nm : String) (σ' : MI) (τ' : ML) : Prop := σ = σ' ∧ τ = τ' ∧ ((¬ inP (σ 1 0).toInt a1 ∧ nm = nIO) ∨ (inP (σ 1 0).toInt a1 ∧ σ 22 0 = 0 ∧ nm = nIS))
def I_PT_day_43 (σ0 : MI) (τ0 : ML) (a1 a2 x1 x2 x3 x4 : Int32) (σ : MI) (τ : ML) : Prop :=
  σ0 = σ ∧ τ0 = τ ∧ a1 = x1 ∧ a2 = x2 ∧ Vd (vx σ0) ∧ PLX σ0 ∧ σ0 22 0 ≠ 0 ∧ inP (σ0 1 0).toInt a1 ∧ ∃ k, k ≤ nJ (vx σ0) ∧ x4 = nI k ∧ x3 = nI (cnp (od (vx σ0) (nJ (vx σ0))) (adx σ0) a1.toNatClampNeg k) ∧ ∀ l, l < k → adx σ0 (od (vx σ0) (nJ (vx σ0)) l) = a1.toNatClampNeg → (cnp (od (vx σ0) (nJ (vx σ0))) (adx σ0) a1.toNatClampNeg l : Int) ≠ a2.toInt
def m_PT_day_43 (σ0 : MI) (τ0 : ML) (a1 a2 x1 x2 x3 x4 : Int32) (σ : MI) (τ : ML) : Nat := 100 - x4.toNatClampNeg
theorem v_PT_day_0 (σ0 : MI) (τ0 : ML) (a1 : Int32) (a2 : Int32) (h : P_PT_day σ0 τ0 a1 a2) : s_PT_day_0 P_PT_isPerson Q_PT_isPerson σ0 τ0 a1 a2 (fun z0 z1 z2 z3 σ9 τ9 => I_PT_day_43 σ0 τ0 a1 a2 z0 z1 z2 z3 σ9 τ9) (Q_PT_day σ0 τ0 a1 a2) (Z_PT_day σ0 τ0 a1 a2) := by
  obtain ⟨hd, hL⟩ := id h
  unfold s_PT_day_0
  refine ⟨hd, fun r2 s2 t2 q2 => ?_⟩
  obtain ⟨rfl, rfl, q2⟩ := q2
  exact ⟨fun c => ⟨fun c2 => ⟨rfl, rfl, rfl, rfl, hd, hL c2, c2, rb_1 q2 c, 0, Nat.zero_le _, rfl, rfl, fun l hl => absurd hl (Nat.not_lt_zero l)⟩, fun c2 => ⟨rfl, rfl, Or.inr ⟨rb_1 q2 c, c2, rfl⟩⟩⟩, fun c => ⟨rfl, rfl, Or.inl ⟨rb_0 q2 c, rfl⟩⟩⟩
theorem v_PT_day_43 (σ0 : MI) (τ0 : ML) (a1 : Int32) (a2 : Int32) (x1 : Int32) (x2 : Int32) (x3 : Int32) (x4 : Int32) (σ : MI) (τ : ML) (h : I_PT_day_43 σ0 τ0 a1 a2 x1 x2 x3 x4 σ τ) : s_PT_day_43 P_PT_isPerson Q_PT_isPerson σ τ x1 x2 x3 x4 (fun z0 z1 z2 z3 σ9 τ9 => I_PT_day_43 σ0 τ0 a1 a2 z0 z1 z2 z3 σ9 τ9 ∧ m_PT_day_43 σ0 τ0 a1 a2 z0 z1 z2 z3 σ9 τ9 < m_PT_day_43 σ0 τ0 a1 a2 x1 x2 x3 x4 σ τ) (Q_PT_day σ0 τ0 a1 a2) (Z_PT_day σ0 τ0 a1 a2) := by
  obtain ⟨rfl, rfl, rfl, rfl, hd, hPL, hm, hin, k, hk, rfl, rfl, hno⟩ := h
  have hn := hd.nJl
  have hnp := hd.nPl
  have e8 := vx_8 hd
  obtain ⟨p, hp, rfl⟩ : ∃ p, p < nP (vx σ0) ∧ a1 = nI p := by
    have hj := hin
    unfold inP at hj
    rw [vx_1 hd, z_nI (by omega)] at hj
    exact ⟨a1.toInt.toNat, by omega, z_of hj.1⟩
  have hcp : (nI p).toNatClampNeg = p := nI_clamp (by omega)
  have hck : (nI k).toNatClampNeg = k := nI_clamp (by omega)
  rw [hcp] at hno
  rw [hcp]
  have hcn := cnp_le (od (vx σ0) (nJ (vx σ0))) (adx σ0) p k
  have hmm : ∀ (u v y : Int32), k < nJ (vx σ0) → y = nI k + 1 → m_PT_day_43 σ0 τ0 (nI p) a2 (nI p) a2 u y σ0 τ0 < m_PT_day_43 σ0 τ0 (nI p) a2 (nI p) a2 v (nI k) σ0 τ0 := by
    intro u v y hl hy
    unfold m_PT_day_43
    rw [hy, nI_1, hck, nI_clamp (by omega)]
    omega
  unfold s_PT_day_43
  rw [e8, nI_leI (by omega) (by omega), hck]
  refine ⟨fun c => ⟨hin, hm, Or.inr ⟨fun l hl => ?_, rfl⟩, rfl, rfl⟩, fun c => ⟨vp_in_nI (by omega) (by decide), fun y65 h65 => ?_⟩⟩
  · rw [hcp]; exact hno l (by omega)
  · have hkn : k < nJ (vx σ0) := by omega
    have hj := od_lt7 hd hkn
    rw [hPL.1 k hkn] at h65
    subst h65
    have hA := hPL.2.1 _ hj
    rw [nI_clamp (by omega), hA.1, dv_eq hA.2 (by omega)]
    have hs : cnp (od (vx σ0) (nJ (vx σ0))) (adx σ0) p (k + 1) = cnp (od (vx σ0) (nJ (vx σ0))) (adx σ0) p k + (if adx σ0 (od (vx σ0) (nJ (vx σ0)) k) = p then 1 else 0) := rfl
    have hno2 : (adx σ0 (od (vx σ0) (nJ (vx σ0)) k) = p → (cnp (od (vx σ0) (nJ (vx σ0))) (adx σ0) p k : Int) ≠ a2.toInt) → ∀ l, l < k + 1 → adx σ0 (od (vx σ0) (nJ (vx σ0)) l) = (nI p).toNatClampNeg → (cnp (od (vx σ0) (nJ (vx σ0))) (adx σ0) (nI p).toNatClampNeg l : Int) ≠ a2.toInt := by
      intro hx l hl
      rw [hcp]
      by_cases z : l = k
      · subst z; exact hx
      · exact hno l (by omega)
    refine ⟨vp_in_nI (by omega) (by decide), fun c2 y hy => ⟨⟨rfl, rfl, rfl, rfl, hd, hPL, hm, hin, k + 1, by omega, by rw [hy, nI_1], ?_, hno2 (fun z => absurd z c2)⟩, hmm _ _ _ hkn hy⟩, fun c2 => ⟨fun c3 y89 h89 y hy => ⟨⟨rfl, rfl, rfl, rfl, hd, hPL, hm, hin, k + 1, by omega, by rw [hy, nI_1], ?_, hno2 (fun _ z => c3 ?_)⟩, hmm _ _ _ hkn hy⟩, fun c3 => ⟨hin, hm, Or.inl ⟨k, hkn, ?_, ?_, rfl⟩, rfl, rfl⟩⟩⟩
    · rw [hcp, hs, if_neg c2]; rfl
    · rw [hcp, hs, if_pos c2, h89, nI_1]
    · rw [z_eq, z_nI (by omega)]; exact z
    · rw [hcp]; exact c2
    · rw [hcp, ← c3, z_nI (by omega)]
theorem c_PT_day (l : Launch) (hlt : l.flags = flags0) (D : va_G) (ad : Nat → Nat) (ci cl : ClassId) : ∀ (sz : Nat) (σ0 : MI) (τ0 : ML) (a1 : Int32) (a2 : Int32), P_PT_day σ0 τ0 a1 a2 → gMx l D (xw ad ci cl) (xt ci cl) (xa ad) y_PT_day w_PT_day rm_PT_day [.ref (ad 0), .int a1, .int a2] sz σ0 τ0 (Q_PT_day σ0 τ0 a1 a2) (Z_PT_day σ0 τ0 a1 a2) :=
  k_PT_day l hlt D ad ci cl P_PT_day Q_PT_day Z_PT_day P_PT_isPerson Q_PT_isPerson (c_PT_isPerson l D ad ci cl) I_PT_day_43 m_PT_day_43 v_PT_day_0 v_PT_day_43
def P_PT_waits (σ : MI) (τ : ML) (a1 : Int32) : Prop := Vd (vx σ) ∧ (σ 22 0 ≠ 0 → PLX σ)
def Q_PT_waits (σ : MI) (τ : ML) (a1 r : Int32) (σ' : MI) (τ' : ML) : Prop := inP (σ 1 0).toInt a1 ∧ σ 22 0 ≠ 0 ∧ r.toInt = (wtn (vx σ) (od (vx σ) (nJ (vx σ))) (adx σ) a1.toNatClampNeg (nJ (vx σ))).1 ∧ σ = σ' ∧ τ = τ'
def Z_PT_waits (σ : MI) (τ : ML) (a1 : Int32) (nm : String) (σ' : MI) (τ' : ML) : Prop := σ = σ' ∧ τ = τ' ∧ ((¬ inP (σ 1 0).toInt a1 ∧ nm = nIO) ∨ (inP (σ 1 0).toInt a1 ∧ σ 22 0 = 0 ∧ nm = nIS))
def I_PT_waits_53 (σ0 : MI) (τ0 : ML) (a1 x1 x2 x3 x4 : Int32) (σ : MI) (τ : ML) : Prop :=
  σ0 = σ ∧ τ0 = τ ∧ a1 = x1 ∧ Vd (vx σ0) ∧ PLX σ0 ∧ σ0 22 0 ≠ 0 ∧ inP (σ0 1 0).toInt a1 ∧ ∃ k, k ≤ nJ (vx σ0) ∧ x4 = nI k ∧ (x2.toInt, x3.toInt) = wtn (vx σ0) (od (vx σ0) (nJ (vx σ0))) (adx σ0) a1.toNatClampNeg k
def m_PT_waits_53 (σ0 : MI) (τ0 : ML) (a1 x1 x2 x3 x4 : Int32) (σ : MI) (τ : ML) : Nat := 100 - x4.toNatClampNeg
theorem v_PT_waits_0 (σ0 : MI) (τ0 : ML) (a1 : Int32) (h : P_PT_waits σ0 τ0 a1) : s_PT_waits_0 P_PT_isPerson Q_PT_isPerson σ0 τ0 a1 (fun z0 z1 z2 z3 σ9 τ9 => I_PT_waits_53 σ0 τ0 a1 z0 z1 z2 z3 σ9 τ9) (Q_PT_waits σ0 τ0 a1) (Z_PT_waits σ0 τ0 a1) := by
  obtain ⟨hd, hL⟩ := id h
  have hnp := hd.nPl
  unfold s_PT_waits_0
  refine ⟨hd, fun r2 s2 t2 q2 => ?_⟩
  obtain ⟨rfl, rfl, q2⟩ := q2
  refine ⟨fun c => ⟨fun c2 => ⟨?_, fun y49 h49 => ⟨rfl, rfl, rfl, hd, hL c2, c2, rb_1 q2 c, 0, Nat.zero_le _, rfl, by rw [h49]; rfl⟩⟩, fun c2 => ⟨rfl, rfl, Or.inr ⟨rb_1 q2 c, c2, rfl⟩⟩⟩, fun c => ⟨rfl, rfl, Or.inl ⟨rb_0 q2 c, rfl⟩⟩⟩
  have := rb_1 q2 c
  rw [vx_1 hd, z_nI (by omega)] at this
  rw [z_in]; omega
theorem v_PT_waits_53 (σ0 : MI) (τ0 : ML) (a1 : Int32) (x1 : Int32) (x2 : Int32) (x3 : Int32) (x4 : Int32) (σ : MI) (τ : ML) (h : I_PT_waits_53 σ0 τ0 a1 x1 x2 x3 x4 σ τ) : s_PT_waits_53 P_PT_isPerson Q_PT_isPerson σ τ x1 x2 x3 x4 (fun z0 z1 z2 z3 σ9 τ9 => I_PT_waits_53 σ0 τ0 a1 z0 z1 z2 z3 σ9 τ9 ∧ m_PT_waits_53 σ0 τ0 a1 z0 z1 z2 z3 σ9 τ9 < m_PT_waits_53 σ0 τ0 a1 x1 x2 x3 x4 σ τ) (Q_PT_waits σ0 τ0 a1) (Z_PT_waits σ0 τ0 a1) := by
  obtain ⟨rfl, rfl, rfl, hd, hPL, hm, hin, k, hk, rfl, hw⟩ := h
  have hn := hd.nJl
  have hnp := hd.nPl
  have e8 := vx_8 hd
  obtain ⟨p, hp, rfl⟩ : ∃ p, p < nP (vx σ0) ∧ a1 = nI p := by
    have hj := hin
    unfold inP at hj
    rw [vx_1 hd, z_nI (by omega)] at hj
    exact ⟨a1.toInt.toNat, by omega, z_of hj.1⟩
  have hcp : (nI p).toNatClampNeg = p := nI_clamp (by omega)
  have hck : (nI k).toNatClampNeg = k := nI_clamp (by omega)
  rw [hcp] at hw
  have hmm : ∀ (u2 u3 y : Int32), k < nJ (vx σ0) → y = nI k + 1 → m_PT_waits_53 σ0 τ0 (nI p) (nI p) u2 u3 y σ0 τ0 < m_PT_waits_53 σ0 τ0 (nI p) (nI p) x2 x3 (nI k) σ0 τ0 := by
    intro u2 u3 y hl hy
    unfold m_PT_waits_53
    rw [hy, nI_1, hck, nI_clamp (by omega)]
    omega
  unfold s_PT_waits_53
  rw [e8, nI_leI (by omega) (by omega), hck]
  refine ⟨fun c => ⟨hin, hm, ?_, rfl, rfl⟩, fun c => ⟨vp_in_nI (by omega) (by decide), fun y75 h75 => ?_⟩⟩
  · have e : k = nJ (vx σ0) := by omega
    rw [e] at hw
    rw [hcp, ← hw]
  · have hkn : k < nJ (vx σ0) := by omega
    have hj := od_lt7 hd hkn
    have ho7 : ∀ i, i < nJ (vx σ0) → od (vx σ0) (nJ (vx σ0)) i < 7 := fun i hi => by have := od_lt7 hd hi; omega
    rw [hPL.1 k hkn] at h75
    subst h75
    have hA := hPL.2.1 _ hj
    have hj7 : vp_in (nI (od (vx σ0) (nJ (vx σ0)) k)) 7 := vp_in_nI (by omega) (by decide)
    have h24 := hPL.2.2.2.2.2.2.1 k hkn
    have hrw := wtn_rng hd (a := adx σ0) (p := p) (by omega) ho7 k hk
    rw [← hw] at hrw
    have hrw2 : (-3180 * (k : Int) ≤ x2.toInt ∧ x2.toInt ≤ 2880 * k) ∧ 0 ≤ x3.toInt ∧ x3.toInt ≤ 2880 := hrw
    have hra := wat_rng hd (a := adx σ0) (p := p) (by omega) ho7 k hk
    have hjob := hd.job (j := od (vx σ0) (nJ (vx σ0)) k) (by omega)
    have hway := hd.way (k := (wat (vx σ0) (od (vx σ0) (nJ (vx σ0))) (adx σ0) p k * 5 + vx σ0 13 (od (vx σ0) (nJ (vx σ0)) k)).toNat) (by omega)
    have httn : (ttn (vx σ0) (od (vx σ0) (nJ (vx σ0))) (adx σ0) p k) ≤ 300 := by unfold ttn; omega
    have hs : wtn (vx σ0) (od (vx σ0) (nJ (vx σ0))) (adx σ0) p (k + 1) = if adx σ0 (od (vx σ0) (nJ (vx σ0)) k) = p then (x2.toInt + (vx σ0 11 (od (vx σ0) (nJ (vx σ0)) k) - x3.toInt - ttn (vx σ0) (od (vx σ0) (nJ (vx σ0))) (adx σ0) p k), vx σ0 12 (od (vx σ0) (nJ (vx σ0)) k)) else (x2.toInt, x3.toInt) := by
      show (if adx σ0 (od (vx σ0) (nJ (vx σ0)) k) = p then _ else _) = _
      rw [← hw]
    rw [nI_clamp (by omega), hA.1, dv_eq hA.2 (by omega)]
    refine ⟨hj7, fun c2 y hy => ⟨⟨rfl, rfl, rfl, hd, hPL, hm, hin, k + 1, by omega, by rw [hy, nI_1], ?_⟩, hmm _ _ _ hkn hy⟩, fun c2 => ⟨hj7, hj7, fun y116 h116 => ⟨hj7, fun y127 h127 y hy => ⟨⟨rfl, rfl, rfl, hd, hPL, hm, hin, k + 1, by omega, by rw [hy, nI_1], ?_⟩, hmm _ _ _ hkn hy⟩⟩⟩⟩
    · rw [hcp, hs, if_neg c2]
    · rw [c2, if_pos hp] at h24
      rw [hcp, hs, if_pos c2]
      have e11 : vx σ0 11 (od (vx σ0) (nJ (vx σ0)) k) = (σ0 11 (od (vx σ0) (nJ (vx σ0)) k)).toInt := rfl
      have e12 : vx σ0 12 (od (vx σ0) (nJ (vx σ0)) k) = (σ0 12 (od (vx σ0) (nJ (vx σ0)) k)).toInt := rfl
      rw [e11, e12] at hjob
      rw [e11, e12]
      have ht : (σ0 24 (od (vx σ0) (nJ (vx σ0)) k)).toInt = ttn (vx σ0) (od (vx σ0) (nJ (vx σ0))) (adx σ0) p k := by rw [h24, z_nI (by omega)]
      have s1 : (σ0 11 (od (vx σ0) (nJ (vx σ0)) k) - x3).toInt = (σ0 11 (od (vx σ0) (nJ (vx σ0)) k)).toInt - x3.toInt := z_sub (by omega) (by omega)
      have s2 : (σ0 11 (od (vx σ0) (nJ (vx σ0)) k) - x3 - σ0 24 (od (vx σ0) (nJ (vx σ0)) k)).toInt = (σ0 11 (od (vx σ0) (nJ (vx σ0)) k)).toInt - x3.toInt - ttn (vx σ0) (od (vx σ0) (nJ (vx σ0))) (adx σ0) p k := by rw [z_sub (by omega) (by omega), s1, ht]
      have s3 : y116.toInt = x2.toInt + ((σ0 11 (od (vx σ0) (nJ (vx σ0)) k)).toInt - x3.toInt - ttn (vx σ0) (od (vx σ0) (nJ (vx σ0))) (adx σ0) p k) := by rw [h116, z_add (by omega) (by omega), s2]
      rw [s3, h127]
theorem c_PT_waits (l : Launch) (hlt : l.flags = flags0) (D : va_G) (ad : Nat → Nat) (ci cl : ClassId) : ∀ (sz : Nat) (σ0 : MI) (τ0 : ML) (a1 : Int32), P_PT_waits σ0 τ0 a1 → gMx l D (xw ad ci cl) (xt ci cl) (xa ad) y_PT_waits w_PT_waits rm_PT_waits [.ref (ad 0), .int a1] sz σ0 τ0 (Q_PT_waits σ0 τ0 a1) (Z_PT_waits σ0 τ0 a1) :=
  k_PT_waits l hlt D ad ci cl P_PT_waits Q_PT_waits Z_PT_waits P_PT_isPerson Q_PT_isPerson (c_PT_isPerson l D ad ci cl) I_PT_waits_53 m_PT_waits_53 v_PT_waits_0 v_PT_waits_53
def clate (σ : MI) (a1 a2 : Int32) : MI := st2 (st2 σ 12 a1.toNatClampNeg (a2 + (σ 12 a1.toNatClampNeg - σ 11 a1.toNatClampNeg))) 11 a1.toNatClampNeg a2
def P_PT_late (σ : MI) (τ : ML) (a1 a2 : Int32) : Prop := Vd (vx σ) ∧ (σ 22 0 ≠ 0 → PLX σ)
def Q_PT_late (σ : MI) (τ : ML) (a1 a2 r : Int32) (σ' : MI) (τ' : ML) : Prop :=
  inP (σ 8 0).toInt a1 ∧ lok (vx σ) a1 a2 ∧ σ 22 0 ≠ 0 ∧ ∃ s1, (∀ c, c ≠ 27 → s1 c = clate σ a1 a2 c) ∧ Vd (vx s1) ∧ Q_PT_makePlan s1 τ σ' τ' ∧ r = nI (cnt (fun j => decide (adx σ j ≠ adx σ' j)) (nJ (vx σ)))
def Z_PT_late (σ : MI) (τ : ML) (a1 a2 : Int32) (nm : String) (σ' : MI) (τ' : ML) : Prop := σ = σ' ∧ τ = τ' ∧ ((¬ inP (σ 8 0).toInt a1 ∧ nm = nIO) ∨ (inP (σ 8 0).toInt a1 ∧ ¬ lok (vx σ) a1 a2 ∧ nm = nIA) ∨ (inP (σ 8 0).toInt a1 ∧ lok (vx σ) a1 a2 ∧ σ 22 0 = 0 ∧ nm = nIS))
theorem Vd_late {d d' : Dt} (hd : Vd d) {j : Nat} {f : Int} (hjn : j < nJ d) (hf : 0 ≤ f ∧ f ≤ 2880) (hl : f + (d 12 j - d 11 j) ≤ 2880) (g : ∀ c, c ≠ 11 → c ≠ 12 → d' c = d c) (g11 : ∀ i, d' 11 i = if i = j then f else d 11 i) (g12 : ∀ i, d' 12 i = if i = j then f + (d 12 j - d 11 j) else d 12 i) : Vd d' ∧ nJ d' = nJ d ∧ nP d' = nP d := by
  have hn := hd.nJl
  have hsp := hd.span hjn
  have eJ : nJ d' = nJ d := by unfold nJ; rw [g 8 (by decide) (by decide)]
  have eP : nP d' = nP d := by unfold nP; rw [g 1 (by decide) (by decide)]
  refine ⟨⟨?_, ?_, ?_, ?_, fun p hp => ?_, fun j hj => ?_, fun t ht => ?_, fun k hk => ?_, fun j hj => ?_⟩, eJ, eP⟩
  · rw [g 1 (by decide) (by decide)]; exact hd.1
  · rw [g 8 (by decide) (by decide)]; exact hd.2.1
  · rw [g 15 (by decide) (by decide)]; exact hd.2.2.1
  · rw [g 17 (by decide) (by decide)]; exact hd.rest
  · rw [g 2 (by decide) (by decide), g 3 (by decide) (by decide), g 4 (by decide) (by decide), g 5 (by decide) (by decide), g 6 (by decide) (by decide)]; exact hd.ppl hp
  · have hx := hd.job hj
    rw [g 9 (by decide) (by decide), g 10 (by decide) (by decide), g 13 (by decide) (by decide), g11, g12]
    refine ⟨hx.1, hx.2.1, ?_, ?_, hx.2.2.2.2⟩
    · split
      · omega
      · exact hx.2.2.1
    · split
      · omega
      · exact hx.2.2.2.1
  · rw [g 16 (by decide) (by decide)]; exact hd.tug ht
  · rw [g 18 (by decide) (by decide)]; exact hd.way hk
  · rw [eJ] at hj
    rw [g11, g12]
    split
    · omega
    · exact hd.span hj
theorem vx_late {σ s1 : MI} (hd : Vd (vx σ)) {a1 a2 : Int32} (hj : inP (σ 8 0).toInt a1) (hl : lok (vx σ) a1 a2) (h1 : ∀ c, c ≠ 27 → s1 c = clate σ a1 a2 c) : Vd (vx s1) ∧ nJ (vx s1) = nJ (vx σ) ∧ nP (vx s1) = nP (vx σ) ∧ (∀ c, c ≠ 11 → c ≠ 12 → vx s1 c = vx σ c) ∧ (∀ i, vx s1 11 i = if i = a1.toNatClampNeg then a2.toInt else vx σ 11 i) ∧ (∀ i, vx s1 12 i = if i = a1.toNatClampNeg then a2.toInt + (vx σ 12 a1.toNatClampNeg - vx σ 11 a1.toNatClampNeg) else vx σ 12 i) := by
  have hn := hd.nJl
  have e8 := vx_8 hd
  have hjn : a1.toNatClampNeg < nJ (vx σ) := by
    unfold inP at hj
    rw [e8, z_nI (by omega)] at hj
    rw [z_cl]; omega
  have hsp := hd.span hjn
  have hjob := hd.job (j := a1.toNatClampNeg) (by omega)
  unfold lok at hl
  have e11 : vx σ 11 a1.toNatClampNeg = (σ 11 a1.toNatClampNeg).toInt := rfl
  have e12 : vx σ 12 a1.toNatClampNeg = (σ 12 a1.toNatClampNeg).toInt := rfl
  have hl2 := hl
  rw [e11, e12] at hl hsp hjob
  have s0 : (σ 12 a1.toNatClampNeg - σ 11 a1.toNatClampNeg).toInt = (σ 12 a1.toNatClampNeg).toInt - (σ 11 a1.toNatClampNeg).toInt := z_sub (by omega) (by omega)
  have s2 : (a2 + (σ 12 a1.toNatClampNeg - σ 11 a1.toNatClampNeg)).toInt = a2.toInt + ((σ 12 a1.toNatClampNeg).toInt - (σ 11 a1.toNatClampNeg).toInt) := by rw [z_add (by omega) (by omega), s0]
  have f3 : ∀ c, c ≠ 27 → c ≠ 11 → c ≠ 12 → s1 c = σ c := fun c z1 z2 z3 => by
    rw [h1 c z1]; unfold clate; rw [st2_ne z2, st2_ne z3]
  have g : ∀ c, c ≠ 11 → c ≠ 12 → vx s1 c = vx σ c := by
    intro c z1 z2
    funext i
    unfold vx
    split
    · rw [f3 1 (by decide) (by decide) (by decide)]
    · rw [f3 2 (by decide) (by decide) (by decide)]
    · rw [f3 3 (by decide) (by decide) (by decide)]
    · rw [f3 4 (by decide) (by decide) (by decide)]
    · rw [f3 5 (by decide) (by decide) (by decide)]
    · rw [f3 6 (by decide) (by decide) (by decide)]
    · rw [f3 8 (by decide) (by decide) (by decide)]
    · rw [f3 9 (by decide) (by decide) (by decide)]
    · rw [f3 10 (by decide) (by decide) (by decide)]
    · exact absurd rfl z1
    · exact absurd rfl z2
    · rw [f3 13 (by decide) (by decide) (by decide)]
    · rw [f3 15 (by decide) (by decide) (by decide)]
    · rw [f3 16 (by decide) (by decide) (by decide)]
    · rw [f3 17 (by decide) (by decide) (by decide)]
    · rw [f3 18 (by decide) (by decide) (by decide)]
    · rfl
  have g11 : ∀ i, vx s1 11 i = if i = a1.toNatClampNeg then a2.toInt else vx σ 11 i := fun i => by
    show (s1 11 i).toInt = _
    rw [h1 11 (by decide)]
    unfold clate
    rw [st2_at]
    by_cases z : i = a1.toNatClampNeg
    · rw [if_pos ⟨rfl, z⟩, if_pos z]
    · rw [if_neg (fun q => z q.2), if_neg z, st2_ne (by decide)]; rfl
  have g12 : ∀ i, vx s1 12 i = if i = a1.toNatClampNeg then a2.toInt + (vx σ 12 a1.toNatClampNeg - vx σ 11 a1.toNatClampNeg) else vx σ 12 i := fun i => by
    show (s1 12 i).toInt = _
    rw [h1 12 (by decide)]
    unfold clate
    rw [st2_ne (by decide), st2_at]
    by_cases z : i = a1.toNatClampNeg
    · rw [if_pos ⟨rfl, z⟩, if_pos z]; exact s2
    · rw [if_neg (fun q => z q.2), if_neg z]; rfl
  obtain ⟨v1, v2, v3⟩ := Vd_late hd hjn hl2.1 hl2.2 g g11 g12
  exact ⟨v1, v2, v3, g, g11, g12⟩
theorem dv_inj {x y : Nat} (hx : x ≤ 4) (hy : y ≤ 4) : dv x = dv y ↔ x = y := by
  unfold dv
  by_cases e : x = 4 <;> by_cases f : y = 4
  · simp [e, f]
  · rw [if_pos e, if_neg f, z_eq, zc_m1, z_nI (by omega)]; omega
  · rw [if_neg e, if_pos f, z_eq, zc_m1, z_nI (by omega)]; omega
  · rw [if_neg e, if_neg f, nI_eq (by omega) (by omega)]
theorem v_PT_late_0 (σ0 : MI) (τ0 : ML) (a1 : Int32) (a2 : Int32) (h : P_PT_late σ0 τ0 a1 a2) : s_PT_late_0 P_PT_isJob Q_PT_isJob P_PT_isWithin Q_PT_isWithin P_Jobs_minutesOf Q_Jobs_minutesOf P_PT_isSpan Q_PT_isSpan P_Plan_keepDoers Q_Plan_keepDoers P_Jobs_move Q_Jobs_move P_PT_makePlan Q_PT_makePlan P_Plan_otherDoers Q_Plan_otherDoers σ0 τ0 a1 a2 (Q_PT_late σ0 τ0 a1 a2) (Z_PT_late σ0 τ0 a1 a2) := by
  obtain ⟨hd, hL⟩ := id h
  have hn := hd.nJl
  have e8 := vx_8 hd
  unfold s_PT_late_0
  refine ⟨hd, fun r2 s2 t2 q2 => ?_⟩
  obtain ⟨rfl, rfl, q2⟩ := q2
  refine ⟨fun c => ⟨trivial, fun r23 s23 t23 q23 => ?_⟩, fun c => ⟨rfl, rfl, Or.inl ⟨rb_0 q2 c, rfl⟩⟩⟩
  obtain ⟨rfl, rfl, q23⟩ := q23
  rw [zc_0, zc_2880] at q23
  have hin : inP (σ0 8 0).toInt a1 := rb_1 q2 c
  have hjn : a1.toNatClampNeg < nJ (vx σ0) := by
    have := hin
    unfold inP at this
    rw [e8, z_nI (by omega)] at this
    rw [z_cl]; omega
  have h7 : vp_in a1 7 := by
    have := hin
    unfold inP at this
    rw [e8, z_nI (by omega)] at this
    rw [z_in]; omega
  have hsp := hd.span hjn
  have hjob := hd.job (j := a1.toNatClampNeg) (by omega)
  have e11 : vx σ0 11 a1.toNatClampNeg = (σ0 11 a1.toNatClampNeg).toInt := rfl
  have e12 : vx σ0 12 a1.toNatClampNeg = (σ0 12 a1.toNatClampNeg).toInt := rfl
  refine ⟨fun c2 => ⟨rfl, rfl, Or.inr (Or.inl ⟨hin, fun z => rb_0 q23 c2 z.1, rfl⟩)⟩, fun c2 => ⟨h7, fun r36 s36 t36 q36 => ?_⟩⟩
  obtain ⟨rfl, rfl, rfl⟩ := q36
  refine ⟨trivial, fun r40 s40 t40 q40 => ?_⟩
  obtain ⟨rfl, rfl, q40⟩ := q40
  have h01 := rb_1 q23 c2
  rw [e11, e12] at hsp hjob
  have s0 : (σ0 12 a1.toNatClampNeg - σ0 11 a1.toNatClampNeg).toInt = (σ0 12 a1.toNatClampNeg).toInt - (σ0 11 a1.toNatClampNeg).toInt := z_sub (by omega) (by omega)
  have s2 : (a2 + (σ0 12 a1.toNatClampNeg - σ0 11 a1.toNatClampNeg)).toInt = a2.toInt + ((σ0 12 a1.toNatClampNeg).toInt - (σ0 11 a1.toNatClampNeg).toInt) := by rw [z_add (by omega) (by omega), s0]
  rw [s2] at q40
  have hlk : (0 ≤ a2.toInt ∧ a2.toInt < a2.toInt + ((σ0 12 a1.toNatClampNeg).toInt - (σ0 11 a1.toNatClampNeg).toInt) ∧ a2.toInt + ((σ0 12 a1.toNatClampNeg).toInt - (σ0 11 a1.toNatClampNeg).toInt) ≤ 2880) ↔ lok (vx σ0) a1 a2 := by
    unfold lok
    rw [e11, e12]
    omega
  have q40 := rb_imp q40 hlk
  refine ⟨fun c3 => ⟨fun c4 => ⟨trivial, fun s80 t80 q80 => ?_⟩, fun c4 => ⟨rfl, rfl, Or.inr (Or.inr ⟨hin, rb_1 q40 c3, c4, rfl⟩)⟩⟩, fun c3 => ⟨rfl, rfl, Or.inr (Or.inl ⟨hin, rb_0 q40 c3, rfl⟩)⟩⟩
  obtain ⟨rfl, k80, k27⟩ := q80
  refine ⟨h7, fun s89 t89 q89 => ?_⟩
  obtain ⟨rfl, h89⟩ := q89
  have hs89 : ∀ c, c ≠ 27 → s89 c = clate σ0 a1 a2 c := by
    intro c hc
    rw [h89]
    unfold clate st2
    rw [k80 12 (by decide), k80 11 (by decide)]
    by_cases z1 : c = 11
    · subst z1; simp [k80 11 (by decide)]
    · by_cases z2 : c = 12
      · subst z2; simp [k80 12 (by decide)]
      · simp [z1, z2, k80 c hc]
  obtain ⟨v1, v2, v3, -⟩ := vx_late hd hin (rb_1 q40 c3) hs89
  refine ⟨v1, fun s93 t93 q93 => ?_⟩
  have hev := vx_plan q93.2.1
  have h8 : s93 8 0 = nI (nJ (vx σ0)) := by
    have hd93 : Vd (vx s93) := by rw [hev]; exact v1
    rw [vx_8 hd93, hev, v2]
  refine ⟨by rw [h8]; exact vp_in_nI (by omega) (by decide), fun r107 s107 t107 q107 => ?_⟩
  obtain ⟨rfl, rfl, hr⟩ := q107
  refine ⟨hin, rb_1 q40 c3, c4, s89, hs89, v1, q93, ?_⟩
  rw [hr, h8, nI_clamp (by omega)]
  congr 1
  refine cnt_congr (fun j hj => ?_)
  have hA0 := (hL c4).2.1 j hj
  have hA1 := q93.2.2.2.2.2.1 j (by rw [hev, v2]; exact hj)
  have e27 : s93 27 j = σ0 23 j := by
    rw [q93.2.1 27 (by decide), h89, st2_ne (by decide), st2_ne (by decide)]
    exact k27 j (by omega)
  rw [e27, hA0.1, hA1.1, decide_eq_decide]
  rw [ne_eq, ne_eq, dv_inj hA1.2 hA0.2]
  omega
theorem c_PT_late (l : Launch) (hlt : l.flags = flags0) (D : va_G) (ad : Nat → Nat) (ci cl : ClassId) : ∀ (sz : Nat) (σ0 : MI) (τ0 : ML) (a1 : Int32) (a2 : Int32), P_PT_late σ0 τ0 a1 a2 → gMx l D (xw ad ci cl) (xt ci cl) (xa ad) y_PT_late w_PT_late rm_PT_late [.ref (ad 0), .int a1, .int a2] sz σ0 τ0 (Q_PT_late σ0 τ0 a1 a2) (Z_PT_late σ0 τ0 a1 a2) :=
  k_PT_late l hlt D ad ci cl P_PT_late Q_PT_late Z_PT_late P_PT_isJob Q_PT_isJob P_PT_isWithin Q_PT_isWithin P_Jobs_minutesOf Q_Jobs_minutesOf P_PT_isSpan Q_PT_isSpan P_Plan_keepDoers Q_Plan_keepDoers P_Jobs_move Q_Jobs_move P_PT_makePlan Q_PT_makePlan P_Plan_otherDoers Q_Plan_otherDoers (c_PT_isJob l D ad ci cl) (c_PT_isWithin l D ad ci cl) (c_Jobs_minutesOf l D ad ci cl) (c_PT_isSpan l D ad ci cl) (c_Plan_keepDoers l D ad ci cl) (c_Jobs_move l D ad ci cl) (c_PT_makePlan l D ad ci cl) (c_Plan_otherDoers l D ad ci cl) v_PT_late_0
