def bcx (a0 : Int32) : Int32 :=
  let y9 := a0 - ((((Int32.toUInt32 a0) >>> ((Int32.toUInt32 1) &&& Int32.toUInt32 31)).toInt32) &&& 1431655765)
  let y23 := (y9 &&& 858993459) + ((((Int32.toUInt32 y9) >>> ((Int32.toUInt32 2) &&& Int32.toUInt32 31)).toInt32) &&& 858993459)
  let y33 := (y23 + (((Int32.toUInt32 y23) >>> ((Int32.toUInt32 4) &&& Int32.toUInt32 31)).toInt32)) &&& 252645135
  let y40 := y33 + (((Int32.toUInt32 y33) >>> ((Int32.toUInt32 8) &&& Int32.toUInt32 31)).toInt32)
  let y47 := y40 + (((Int32.toUInt32 y40) >>> ((Int32.toUInt32 16) &&& Int32.toUInt32 31)).toInt32)
  y47 &&& 63
theorem bcx_128 : ∀ S, S < 128 → bcx (nI S) = nI (pcn S) := by decide +kernel
def P_Integer_bitCount (σ : MI) (τ : ML) (a0 : Int32) : Prop := vp_in a0 128
def Q_Integer_bitCount (σ : MI) (τ : ML) (a0 r : Int32) (σ' : MI) (τ' : ML) : Prop := σ = σ' ∧ τ = τ' ∧ r = nI (pcn a0.toNatClampNeg)
theorem v_Integer_bitCount_0 (σ0 : MI) (τ0 : ML) (a0 : Int32) (h : P_Integer_bitCount σ0 τ0 a0) : s_Integer_bitCount_0 σ0 τ0 a0 (Q_Integer_bitCount σ0 τ0 a0) := by
  unfold s_Integer_bitCount_0
  intro y9 h9 y23 h23 y33 h33 y40 h40 y47 h47
  obtain ⟨S, hS, rfl⟩ := vp_in_of h (by decide)
  refine ⟨rfl, rfl, ?_⟩
  rw [nI_clamp (by omega), ← bcx_128 S hS, h47, h40, h33, h23, h9]
  rfl
theorem c_Integer_bitCount (l : Launch) (D : va_G) (ad : Nat → Nat) (ci cl : ClassId) : ∀ (sz : Nat) (σ0 : MI) (τ0 : ML) (a0 : Int32), P_Integer_bitCount σ0 τ0 a0 → gMi l D (xw ad ci cl) (xt ci cl) (xa ad) y_Integer_bitCount w_Integer_bitCount rm_Integer_bitCount [.int a0] sz σ0 τ0 (Q_Integer_bitCount σ0 τ0 a0) :=
  k_Integer_bitCount l D ad ci cl P_Integer_bitCount Q_Integer_bitCount v_Integer_bitCount_0
def failr (d : Dt) (z : Int) : Prop := ∃ j, j < nJ d ∧ (z = 4 ∨ (z = 3 ∧ d 9 j = 5))
def P_People_failsForOne (σ : MI) (τ : ML) (a0 : Int32) : Prop := Vd (vx σ)
def Q_People_failsForOne (σ : MI) (τ : ML) (a0 r : Int32) (σ' : MI) (τ' : ML) : Prop := σ = σ' ∧ τ = τ' ∧ rb (failr (vx σ) a0.toInt) r
def I_People_failsForOne_2 (σ0 : MI) (τ0 : ML) (a0 x0 x2 : Int32) (σ : MI) (τ : ML) : Prop :=
  σ0 = σ ∧ τ0 = τ ∧ a0 = x0 ∧ Vd (vx σ0) ∧ ∃ i, i ≤ nJ (vx σ0) ∧ x2 = nI i ∧ ∀ j, j < i → ¬ (a0.toInt = 4 ∨ (a0.toInt = 3 ∧ vx σ0 9 j = 5))
def m_People_failsForOne_2 (σ0 : MI) (τ0 : ML) (a0 x0 x2 : Int32) (σ : MI) (τ : ML) : Nat := 100 - x2.toNatClampNeg
theorem v_People_failsForOne_0 (σ0 : MI) (τ0 : ML) (a0 : Int32) (h : P_People_failsForOne σ0 τ0 a0) : s_People_failsForOne_0 σ0 τ0 a0 (fun z0 z1 σ9 τ9 => I_People_failsForOne_2 σ0 τ0 a0 z0 z1 σ9 τ9) (Q_People_failsForOne σ0 τ0 a0) := by
  unfold s_People_failsForOne_0
  exact ⟨rfl, rfl, rfl, h, 0, Nat.zero_le _, rfl, fun j hj => absurd hj (Nat.not_lt_zero j)⟩
theorem v_People_failsForOne_2 (σ0 : MI) (τ0 : ML) (a0 : Int32) (x0 : Int32) (x2 : Int32) (σ : MI) (τ : ML) (h : I_People_failsForOne_2 σ0 τ0 a0 x0 x2 σ τ) : s_People_failsForOne_2 σ τ x0 x2 (fun z0 z1 σ9 τ9 => I_People_failsForOne_2 σ0 τ0 a0 z0 z1 σ9 τ9 ∧ m_People_failsForOne_2 σ0 τ0 a0 z0 z1 σ9 τ9 < m_People_failsForOne_2 σ0 τ0 a0 x0 x2 σ τ) (Q_People_failsForOne σ0 τ0 a0) := by
  obtain ⟨rfl, rfl, rfl, hd, i, hi, rfl, hall⟩ := h
  have hn := hd.nJl
  have e8 := vx_8 hd
  unfold s_People_failsForOne_2
  rw [e8, nI_leI (by omega) (by omega)]
  have hstep : nI i + 1 = nI (i + 1) := nI_1 i
  have hc : (nI i).toNatClampNeg = i := nI_clamp (by omega)
  have hm : ∀ y : Int32, y = nI i + 1 → m_People_failsForOne_2 σ0 τ0 a0 a0 y σ0 τ0 < m_People_failsForOne_2 σ0 τ0 a0 a0 (nI i) σ0 τ0 := by
    intro y hy
    unfold m_People_failsForOne_2
    rw [hy, hstep, hc, nI_clamp (by omega)]
    omega
  refine ⟨fun hle => ⟨by decide, rfl, rfl, rb_f ?_⟩, fun hlt => ⟨fun h4 => ⟨fun h3 => fun y hy => ⟨⟨rfl, rfl, rfl, hd, i + 1, by omega, by rw [hy, hstep], ?_⟩, hm y hy⟩, fun h3 => ⟨vp_in_nI (by omega) (by decide), ?_, ?_⟩⟩, fun h4 => ⟨by decide, rfl, rfl, rb_t ?_⟩⟩⟩
  · rintro ⟨j, hj, hz⟩
    exact hall j (by omega) hz
  · intro j hj
    rcases Nat.lt_succ_iff_lt_or_eq.mp hj with z | z
    · exact hall j z
    · rw [z_eq, zc_4] at h4
      rw [z_eq, zc_3] at h3
      omega
  · intro h5 y hy
    refine ⟨⟨rfl, rfl, rfl, hd, i + 1, by omega, by rw [hy, hstep], ?_⟩, hm y hy⟩
    intro j hj
    rcases Nat.lt_succ_iff_lt_or_eq.mp hj with z | z
    · exact hall j z
    · subst z
      rw [hc, z_eq, zc_5] at h5
      rw [z_eq, zc_4] at h4
      have : vx σ0 9 j = (σ0 9 j).toInt := rfl
      omega
  · intro h5
    refine ⟨by decide, rfl, rfl, rb_t ⟨i, by omega, Or.inr ⟨?_, ?_⟩⟩⟩
    · rw [z_eq, zc_3] at h3; exact h3
    · rw [hc, z_eq, zc_5] at h5; exact h5
  · refine ⟨i, by omega, Or.inl ?_⟩
    rw [z_eq, zc_4] at h4; exact h4
theorem c_People_failsForOne (l : Launch) (D : va_G) (ad : Nat → Nat) (ci cl : ClassId) : ∀ (sz : Nat) (σ0 : MI) (τ0 : ML) (a0 : Int32), P_People_failsForOne σ0 τ0 a0 → gMi l D (xw ad ci cl) (xt ci cl) (xa ad) y_People_failsForOne w_People_failsForOne rm_People_failsForOne [.int a0, .ref (ad 8)] sz σ0 τ0 (Q_People_failsForOne σ0 τ0 a0) :=
  k_People_failsForOne l D ad ci cl P_People_failsForOne Q_People_failsForOne I_People_failsForOne_2 m_People_failsForOne_2 v_People_failsForOne_0 v_People_failsForOne_2
def fitp (d : Dt) (p j : Nat) : Prop := d 9 j ≤ d 2 p ∧ d 12 j ≤ d 4 p ∧ ¬ (d 6 p = 1 ∧ d 11 j < 360)
def P_People_isFit (σ : MI) (τ : ML) (a1 a2 : Int32) : Prop := vp_in a1 4 ∧ vp_in a2 7
def Q_People_isFit (σ : MI) (τ : ML) (a1 a2 r : Int32) (σ' : MI) (τ' : ML) : Prop := σ = σ' ∧ τ = τ' ∧ rb (fitp (vx σ) a1.toNatClampNeg a2.toNatClampNeg) r
theorem v_People_isFit_0 (σ0 : MI) (τ0 : ML) (a1 : Int32) (a2 : Int32) (h : P_People_isFit σ0 τ0 a1 a2) : s_People_isFit_0 σ0 τ0 a1 a2 (Q_People_isFit σ0 τ0 a1 a2) := by
  have h1 := h.1
  have h2 := h.2
  unfold s_People_isFit_0
  refine ⟨h1, h2, fun c1 => ⟨by decide, rfl, rfl, rb_f ?_⟩, fun c1 => ⟨h2, h1, fun c2 => ⟨h1, fun c3 => ⟨by decide, rfl, rfl, rb_t ?_⟩, fun c3 => ⟨h2, fun c4 => ⟨by decide, rfl, rfl, rb_f ?_⟩, fun c4 => ⟨by decide, rfl, rfl, rb_t ?_⟩⟩⟩, fun c2 => ⟨by decide, rfl, rfl, rb_f ?_⟩⟩⟩
  all_goals (unfold fitp; simp only [vx])
  all_goals (simp only [z_eq, z_lt, z_le, zc_0, zc_1, zc_2, zc_3, zc_4, zc_5, zc_6, zc_7, zc_10, zc_100, zc_300, zc_360, zc_600, zc_2880, zc_1000000, zc_m1] at *)
  all_goals omega
theorem c_People_isFit (l : Launch) (D : va_G) (ad : Nat → Nat) (ci cl : ClassId) : ∀ (sz : Nat) (σ0 : MI) (τ0 : ML) (a1 : Int32) (a2 : Int32), P_People_isFit σ0 τ0 a1 a2 → gMi l D (xw ad ci cl) (xt ci cl) (xa ad) y_People_isFit w_People_isFit rm_People_isFit [.ref (ad 1), .int a1, .int a2, .ref (ad 8)] sz σ0 τ0 (Q_People_isFit σ0 τ0 a1 a2) :=
  k_People_isFit l D ad ci cl P_People_isFit Q_People_isFit v_People_isFit_0
def P_Planner_travelOf (σ : MI) (τ : ML) (a4 a5 : Int32) : Prop := Vd (vx σ) ∧ Orx σ ∧ vp_in a4 4 ∧ vp_in a5 128
def Q_Planner_travelOf (σ : MI) (τ : ML) (a4 a5 r : Int32) (σ' : MI) (τ' : ML) : Prop := σ = σ' ∧ τ = τ' ∧ r = ov (trv (vx σ) (od (vx σ) (nJ (vx σ))) a4.toNatClampNeg a5.toNatClampNeg (nJ (vx σ)))
def I_Planner_travelOf_46 (σ0 : MI) (τ0 : ML) (a4 a5 x4 x5 x6 x7 x8 x9 : Int32) (σ : MI) (τ : ML) : Prop :=
  σ0 = σ ∧ τ0 = τ ∧ a4 = x4 ∧ a5 = x5 ∧ P_Planner_travelOf σ0 τ0 a4 a5 ∧ ¬ (vx σ0 6 a4.toNatClampNeg = 2 ∧ 2 < pcn a5.toNatClampNeg) ∧
  ∃ k, k ≤ nJ (vx σ0) ∧ x9 = nI k ∧ tvf (vx σ0) (od (vx σ0) (nJ (vx σ0))) a4.toNatClampNeg a5.toNatClampNeg k = some (x6.toInt, x7.toInt, x8.toInt)
def m_Planner_travelOf_46 (σ0 : MI) (τ0 : ML) (a4 a5 x4 x5 x6 x7 x8 x9 : Int32) (σ : MI) (τ : ML) : Nat := 100 - x9.toNatClampNeg
theorem tv_22 (σ0 : MI) (τ0 : ML) (a4 a5 : Int32) (h : P_Planner_travelOf σ0 τ0 a4 a5) (h2 : ¬ (vx σ0 6 a4.toNatClampNeg = 2 ∧ 2 < pcn a5.toNatClampNeg)) : s_Planner_travelOf_22 P_Integer_bitCount Q_Integer_bitCount P_Ways_between Q_Ways_between P_People_isFit Q_People_isFit σ0 τ0 a4 a5 (fun z0 z1 z2 z3 z4 z5 σ9 τ9 => I_Planner_travelOf_46 σ0 τ0 a4 a5 z0 z1 z2 z3 z4 z5 σ9 τ9) (Q_Planner_travelOf σ0 τ0 a4 a5) := by
  unfold s_Planner_travelOf_22
  refine ⟨h.2.2.1, fun y hy => ⟨h.2.2.1, fun y2 hy2 => ⟨rfl, rfl, rfl, rfl, h, h2, 0, Nat.zero_le _, rfl, ?_⟩⟩⟩
  rw [hy, hy2]
  rfl
theorem bit_0 {S j : Nat} (hS : S < 2147483648) (hj : j < 32) : (nI S >>> (nI j &&& 31)) &&& 1 = 0 ↔ S.testBit j = false := by
  rw [zb_bit hS hj]
  cases S.testBit j
  · exact ⟨fun _ => rfl, fun _ => rfl⟩
  · exact ⟨fun h => absurd h (by decide), fun h => absurd h (by decide)⟩
theorem bit_1 {S j : Nat} (hS : S < 2147483648) (hj : j < 32) : (nI S >>> (nI j &&& 31)) &&& 1 = 1 ↔ S.testBit j = true := by
  rw [zb_bit hS hj]
  cases S.testBit j
  · exact ⟨fun h => absurd h (by decide), fun h => absurd h (by decide)⟩
  · exact ⟨fun _ => rfl, fun _ => rfl⟩
theorem od_lt7 {d : Dt} (hd : Vd d) {k : Nat} (hk : k < nJ d) : od d (nJ d) k < nJ d := (od_ok d (nJ d)).1 k hk
theorem tvf_succ {d : Dt} {o : Nat → Nat} {p S k : Nat} {a f t : Int} (h : tvf d o p S k = some (a, f, t)) : tvf d o p S (k + 1) = (if S.testBit (o k) = true then
        (if d 9 (o k) ≤ d 2 p ∧ d 12 (o k) ≤ d 4 p ∧ ¬ (d 6 p = 1 ∧ d 11 (o k) < 360) ∧ f + d 18 (a * 5 + d 13 (o k)).toNat ≤ d 11 (o k) then some (d 13 (o k), d 12 (o k) + d 17 0, t + d 18 (a * 5 + d 13 (o k)).toNat) else none)
      else some (a, f, t)) := by
  rw [tvf, h]
theorem v_Planner_travelOf_0 (σ0 : MI) (τ0 : ML) (a4 : Int32) (a5 : Int32) (h : P_Planner_travelOf σ0 τ0 a4 a5) : s_Planner_travelOf_0 P_Integer_bitCount Q_Integer_bitCount P_Ways_between Q_Ways_between P_People_isFit Q_People_isFit σ0 τ0 a4 a5 (fun z0 z1 z2 z3 z4 z5 σ9 τ9 => I_Planner_travelOf_46 σ0 τ0 a4 a5 z0 z1 z2 z3 z4 z5 σ9 τ9) (Q_Planner_travelOf σ0 τ0 a4 a5) := by
  unfold s_Planner_travelOf_0
  refine ⟨h.2.2.1, fun c => tv_22 _ _ _ _ h (fun z => c (z_eq.mpr z.1)), fun c => ⟨h.2.2.2, fun r s t hq => ?_⟩⟩
  obtain ⟨rfl, rfl, rfl⟩ := hq
  have hS := h.2.2.2
  obtain ⟨S, hS, rfl⟩ := vp_in_of hS (by decide)
  have hpc : pcn S ≤ 7 := by
    have := dp_sb_le (g := fun _ => 1) (S := S) 1 (fun _ => Nat.le_refl 1) 7
    unfold pcn; omega
  rw [nI_clamp (by omega), z_le, z_nI (by omega), zc_2]
  refine ⟨fun c2 => tv_22 _ _ _ _ h (fun z => ?_), fun c2 => ⟨rfl, rfl, ?_⟩⟩
  · have := z.2
    rw [nI_clamp (by omega)] at this
    omega
  · unfold trv
    rw [nI_clamp (n := S) (by omega), if_pos ⟨z_eq.mp c, by omega⟩]
    rfl
theorem v_Planner_travelOf_46 (σ0 : MI) (τ0 : ML) (a4 : Int32) (a5 : Int32) (x4 : Int32) (x5 : Int32) (x6 : Int32) (x7 : Int32) (x8 : Int32) (x9 : Int32) (σ : MI) (τ : ML) (h : I_Planner_travelOf_46 σ0 τ0 a4 a5 x4 x5 x6 x7 x8 x9 σ τ) : s_Planner_travelOf_46 P_Integer_bitCount Q_Integer_bitCount P_Ways_between Q_Ways_between P_People_isFit Q_People_isFit σ τ x4 x5 x6 x7 x8 x9 (fun z0 z1 z2 z3 z4 z5 σ9 τ9 => I_Planner_travelOf_46 σ0 τ0 a4 a5 z0 z1 z2 z3 z4 z5 σ9 τ9 ∧ m_Planner_travelOf_46 σ0 τ0 a4 a5 z0 z1 z2 z3 z4 z5 σ9 τ9 < m_Planner_travelOf_46 σ0 τ0 a4 a5 x4 x5 x6 x7 x8 x9 σ τ) (Q_Planner_travelOf σ0 τ0 a4 a5) := by
  obtain ⟨rfl, rfl, rfl, rfl, hP, hr2, k, hk, rfl, ht⟩ := h
  obtain ⟨hd, ho, h4, h5⟩ := id hP
  obtain ⟨p, hp, rfl⟩ := vp_in_of h4 (by decide)
  obtain ⟨S, hS, rfl⟩ := vp_in_of h5 (by decide)
  have hcp : (nI p).toNatClampNeg = p := nI_clamp (by omega)
  have hcS : (nI S).toNatClampNeg = S := nI_clamp (by omega)
  have hr3 := hr2
  have ht3 := ht
  rw [hcp, hcS] at hr3 ht3
  have hn := hd.nJl
  have e8 := vx_8 hd
  have hrng := tvf_rng hd hp (fun k hk => Nat.lt_of_lt_of_le (od_lt7 hd hk) hn.1) k _ _ _ hk ht3
  have hnone : tvf (vx σ0) (od (vx σ0) (nJ (vx σ0))) p S (k + 1) = none → k < nJ (vx σ0) → Q_Planner_travelOf σ0 τ0 (nI p) (nI S) (-1) σ0 τ0 := by
    intro hz hlt
    refine ⟨rfl, rfl, ?_⟩
    unfold trv
    rw [hcp, hcS, if_neg hr3, tvf_none (k := k + 1) (by omega) hz]
    rfl
  unfold s_Planner_travelOf_46
  rw [e8, nI_leI (by omega) (by omega)]
  refine ⟨fun c => ⟨rfl, rfl, ?_⟩, fun c => ⟨vp_in_nI (by omega) (by decide), fun y hy => ?_⟩⟩
  · have e : k = nJ (vx σ0) := by omega
    unfold trv
    rw [hcp, hcS, if_neg hr3]
    rw [e] at ht3
    rw [ht3]
    exact z_of hrng.2.2.2.2.1
  · have hkn : k < nJ (vx σ0) := by omega
    have hj := od_lt7 hd hkn
    rw [nI_clamp (by omega), ho k hkn] at hy
    have hs := tvf_succ ht3
    obtain ⟨j, ej⟩ : ∃ j, j = od (vx σ0) (nJ (vx σ0)) k := ⟨_, rfl⟩
    rw [← ej] at hy hj hs
    subst hy
    have hj7 : vp_in (nI j) 7 := vp_in_nI (by omega) (by decide)
    have hcj : (nI j).toNatClampNeg = j := nI_clamp (by omega)
    have hjob := hd.job (j := j) (by omega)
    have hm : ∀ (u6 u7 u8 y : Int32), y = nI k + 1 → m_Planner_travelOf_46 σ0 τ0 (nI p) (nI S) (nI p) (nI S) u6 u7 u8 y σ0 τ0 < m_Planner_travelOf_46 σ0 τ0 (nI p) (nI S) (nI p) (nI S) x6 x7 x8 (nI k) σ0 τ0 := by
      intro u6 u7 u8 y hy
      unfold m_Planner_travelOf_46
      rw [hy, nI_1, nI_clamp (by omega), nI_clamp (by omega)]
      omega
    rw [bit_0 (by omega) (by omega)]
    refine ⟨fun c2 => fun y2 hy2 => ⟨⟨rfl, rfl, rfl, rfl, hP, hr2, k + 1, by omega, by rw [hy2, nI_1], ?_⟩, hm _ _ _ y2 hy2⟩, fun c2 => ⟨hj7, ?_, fun r84 s84 t84 hq => ?_⟩⟩
    · rw [hcp, hcS, hs, if_neg (by rw [c2]; decide)]
    · rw [hcj]
      exact ⟨⟨hrng.1, hrng.2.1⟩, hjob.2.2.2.2⟩
    · obtain ⟨rfl, rfl, rfl⟩ := hq
      have hb : S.testBit j = true := by simpa using c2
      rw [hcj]
      refine ⟨⟨h4, hj7⟩, fun r95 s95 t95 hq => ?_⟩
      obtain ⟨rfl, rfl, hf⟩ := hq
      rw [hcp, hcj] at hf
      rw [if_pos hb] at hs
      have hway := hd.way (k := (x6.toInt * 5 + (σ0 13 j).toInt).toNat) (by simp only [vx] at hjob; omega)
      have hrest := hd.rest
      simp only [vx] at hway hrest hjob hs
      refine ⟨fun c3 => ?_, fun c3 => ⟨hj7, fun c4 => ?_, fun c4 => ?_⟩⟩
      · refine hnone ?_ hkn
        have := rb_0 hf c3
        unfold fitp at this
        simp only [vx] at this
        rw [hs, if_neg (fun z => this ⟨z.1, z.2.1, z.2.2.1⟩)]
      · intro y123 h123
        refine ⟨hj7, fun y132 h132 => ⟨hj7, fun y146 h146 y148 h148 => ⟨⟨rfl, rfl, rfl, rfl, hP, hr2, k + 1, by omega, by rw [h148, nI_1], ?_⟩, hm _ _ _ y148 h148⟩⟩⟩
        have hft := rb_1 hf c3
        unfold fitp at hft
        simp only [vx] at hft
        rw [z_le, z_add (by omega) (by omega)] at c4
        rw [hcp, hcS, hs, if_pos ⟨hft.1, hft.2.1, hft.2.2, c4⟩, h123, h132, h146, z_add (by omega) (by omega), z_add (by omega) (by omega)]
      · refine hnone ?_ hkn
        rw [z_le, z_add (by omega) (by omega)] at c4
        rw [hs, if_neg (fun z => c4 z.2.2.2)]
theorem c_Planner_travelOf (l : Launch) (D : va_G) (ad : Nat → Nat) (ci cl : ClassId) : ∀ (sz : Nat) (σ0 : MI) (τ0 : ML) (a4 : Int32) (a5 : Int32), P_Planner_travelOf σ0 τ0 a4 a5 → gMi l D (xw ad ci cl) (xt ci cl) (xa ad) y_Planner_travelOf w_Planner_travelOf rm_Planner_travelOf [.ref (ad 19), .ref (ad 1), .ref (ad 8), .ref (ad 17), .int a4, .int a5] sz σ0 τ0 (Q_Planner_travelOf σ0 τ0 a4 a5) :=
  k_Planner_travelOf l D ad ci cl P_Planner_travelOf Q_Planner_travelOf P_Integer_bitCount Q_Integer_bitCount P_Ways_between Q_Ways_between P_People_isFit Q_People_isFit (c_Integer_bitCount l D ad ci cl) (c_Ways_between l D ad ci cl) (c_People_isFit l D ad ci cl) I_Planner_travelOf_46 m_Planner_travelOf_46 v_Planner_travelOf_0 v_Planner_travelOf_46
