def lz (τ : ML) (c i : Nat) : Nat := (τ c i).toInt.toNat
def ow (τ : ML) (T : Nat) : Option Nat := if τ 21 T = -1 then none else some (lz τ 21 T)
def jo_min (c : Nat → Nat) (w : Nat → Option Nat) (S v q : Nat) : Prop :=
  v ≤ c S ∧ (∀ T x, q < T → (∀ j, T.testBit j = true → S.testBit j = true) → w T = some x → v ≤ x + c (S ^^^ T)) ∧ (v = c S ∨ ∃ T x, (∀ j, T.testBit j = true → S.testBit j = true) ∧ w T = some x ∧ v = x + c (S ^^^ T))
def jo_ok (τ : ML) (n : Nat) : Prop := ∀ S, S < 2 ^ n → (0 ≤ (τ 20 S).toInt ∧ (τ 20 S).toInt < 17592186044416) ∧ (τ 21 S = -1 ∨ (0 ≤ (τ 21 S).toInt ∧ (τ 21 S).toInt < 17592186044416))
def P_Planner_joinOwn (σ : MI) (τ : ML) (a : Int32) : Prop := ∃ n, n ≤ 7 ∧ a = nI (2 ^ n) ∧ jo_ok τ n
def Q_Planner_joinOwn (σ : MI) (τ : ML) (a : Int32) (σ' : MI) (τ' : ML) : Prop :=
  σ = σ' ∧ (∀ c, c ≠ 20 → τ' c = τ c) ∧ ∀ n, n ≤ 7 → a = nI (2 ^ n) → ∀ S, S < 2 ^ n → 0 ≤ (τ' 20 S).toInt ∧ jo_min (lz τ 20) (ow τ) S (lz τ' 20 S) 0
def I_Planner_joinOwn_4 (σ0 : MI) (τ0 : ML) (a1 x2 : Int32) (σ : MI) (τ : ML) : Prop :=
  σ = σ0 ∧ (∀ c, c ≠ 20 → τ c = τ0 c) ∧ ∃ n k, n ≤ 7 ∧ a1 = nI (2 ^ n) ∧ x2 = nI k ∧ k < 2 ^ n ∧ jo_ok τ0 n ∧ (∀ S, S ≤ k → τ 20 S = τ0 20 S) ∧ ∀ S, S < 2 ^ n → k < S → 0 ≤ (τ 20 S).toInt ∧ jo_min (lz τ0 20) (ow τ0) S (lz τ 20 S) 0
def I_Planner_joinOwn_18 (σ0 : MI) (τ0 : ML) (a1 x2 : Int32) (x3 : Int64) (x5 : Int32) (σ : MI) (τ : ML) : Prop :=
  σ = σ0 ∧ (∀ c, c ≠ 20 → τ c = τ0 c) ∧ ∃ n k q, n ≤ 7 ∧ a1 = nI (2 ^ n) ∧ x2 = nI k ∧ k < 2 ^ n ∧ 0 < k ∧ x5 = nI q ∧ (∀ j, q.testBit j = true → k.testBit j = true) ∧ 0 ≤ x3.toInt ∧ jo_ok τ0 n ∧ (∀ S, S ≤ k → τ 20 S = τ0 20 S) ∧ (∀ S, S < 2 ^ n → k < S → 0 ≤ (τ 20 S).toInt ∧ jo_min (lz τ0 20) (ow τ0) S (lz τ 20 S) 0) ∧ jo_min (lz τ0 20) (ow τ0) k x3.toInt.toNat q
theorem jo_pow {n : Nat} (h : n ≤ 7) : 1 ≤ 2 ^ n ∧ 2 ^ n ≤ 128 := by
  refine ⟨Nat.one_le_two_pow, ?_⟩
  exact Nat.pow_le_pow_right (n := 2) (by decide) h
theorem jo_inj {n m : Nat} (hn : n ≤ 7) (hm : m ≤ 7) (h : nI (2 ^ n) = nI (2 ^ m)) : n = m := by
  have h1 := jo_pow hn
  have h2 := jo_pow hm
  rw [nI_eq (by omega) (by omega)] at h
  exact (Nat.pow_right_inj (by decide)).mp h
def m_Planner_joinOwn_4 (σ0 : MI) (τ0 : ML) (a1 x2 : Int32) (σ : MI) (τ : ML) : Nat := x2.toInt.toNat * 1000 + 999
def m_Planner_joinOwn_18 (σ0 : MI) (τ0 : ML) (a1 x2 : Int32) (x3 : Int64) (x5 : Int32) (σ : MI) (τ : ML) : Nat := x2.toInt.toNat * 1000 + x5.toInt.toNat
theorem v_Planner_joinOwn_0 (σ0 : MI) (τ0 : ML) (a1 : Int32) (h : P_Planner_joinOwn σ0 τ0 a1) : s_Planner_joinOwn_0 σ0 τ0 a1 (fun z0 σ9 τ9 => I_Planner_joinOwn_4 σ0 τ0 a1 z0 σ9 τ9) (fun z0 z1 z2 σ9 τ9 => I_Planner_joinOwn_18 σ0 τ0 a1 z0 z1 z2 σ9 τ9) (Q_Planner_joinOwn σ0 τ0 a1) := by
  obtain ⟨n, hn, rfl, hok⟩ := h
  have hp := jo_pow hn
  unfold s_Planner_joinOwn_0
  intro y hy
  refine ⟨rfl, fun _ _ => rfl, n, 2 ^ n - 1, hn, rfl, ?_, by omega, hok, fun _ _ => rfl, fun S h1 h2 => by omega⟩
  rw [hy, z_eq, z_sub, z_nI (by omega), z_nI (by omega)]
  · show ((2 ^ n : Nat) : Int) - 1 = _
    omega
  · rw [z_nI (by omega)]; show _ ≤ ((2 ^ n : Nat) : Int) - 1; omega
  · rw [z_nI (by omega)]; show ((2 ^ n : Nat) : Int) - 1 < _; omega
theorem v_Planner_joinOwn_4 (σ0 : MI) (τ0 : ML) (a1 : Int32) (x2 : Int32) (σ : MI) (τ : ML) (h : I_Planner_joinOwn_4 σ0 τ0 a1 x2 σ τ) : s_Planner_joinOwn_4 σ τ x2 (fun z0 σ9 τ9 => I_Planner_joinOwn_4 σ0 τ0 a1 z0 σ9 τ9 ∧ m_Planner_joinOwn_4 σ0 τ0 a1 z0 σ9 τ9 < m_Planner_joinOwn_4 σ0 τ0 a1 x2 σ τ) (fun z0 z1 z2 σ9 τ9 => I_Planner_joinOwn_18 σ0 τ0 a1 z0 z1 z2 σ9 τ9 ∧ m_Planner_joinOwn_18 σ0 τ0 a1 z0 z1 z2 σ9 τ9 < m_Planner_joinOwn_4 σ0 τ0 a1 x2 σ τ) (Q_Planner_joinOwn σ0 τ0 a1) := by
  obtain ⟨rfl, hfr, n, k, hn, rfl, rfl, hk, hok, hlo, hhi⟩ := h
  have hp := jo_pow hn
  unfold s_Planner_joinOwn_4
  have hkI : (nI k).toInt = k := z_nI (by omega)
  refine ⟨fun hc => ?_, fun hc => ?_⟩
  · rw [z_le, hkI] at hc
    have hk0 : k = 0 := by
      have : (0 : Int32).toInt = 0 := rfl
      omega
    subst hk0
    refine ⟨rfl, hfr, fun m hm e S hS => ?_⟩
    have := jo_inj hn hm e
    subst this
    rcases Nat.eq_zero_or_pos S with rfl | hpos
    · have e0 := hlo 0 (Nat.le_refl 0)
      have hk0 := (hok 0 hS).1
      refine ⟨by rw [e0]; exact hk0.1, ?_⟩
      unfold lz
      rw [e0]
      refine ⟨Nat.le_refl _, fun T x hT hs _ => ?_, Or.inl rfl⟩
      have := zb_sub hs
      omega
    · exact hhi S hS hpos
  · rw [z_le, hkI] at hc
    have hk0 : 0 < k := by
      have : (0 : Int32).toInt = 0 := rfl
      omega
    refine ⟨z_in.mpr ⟨by omega, by omega⟩, fun y hy => ?_⟩
    have hcl : (nI k).toNatClampNeg = k := nI_clamp (by omega)
    rw [hcl, hlo k (Nat.le_refl k)] at hy
    subst hy
    refine ⟨⟨rfl, hfr, n, k, k, hn, rfl, rfl, hk, hk0, rfl, fun _ h => h, (hok k hk).1.1, hok, hlo, hhi, Nat.le_refl _, fun T x hT hs _ => ?_, Or.inl rfl⟩, ?_⟩
    · have := zb_sub hs
      omega
    · unfold m_Planner_joinOwn_4 m_Planner_joinOwn_18
      rw [hkI]
      omega
theorem v_Planner_joinOwn_18 (σ0 : MI) (τ0 : ML) (a1 : Int32) (x2 : Int32) (x3 : Int64) (x5 : Int32) (σ : MI) (τ : ML) (h : I_Planner_joinOwn_18 σ0 τ0 a1 x2 x3 x5 σ τ) : s_Planner_joinOwn_18 σ τ x2 x3 x5 (fun z0 σ9 τ9 => I_Planner_joinOwn_4 σ0 τ0 a1 z0 σ9 τ9 ∧ m_Planner_joinOwn_4 σ0 τ0 a1 z0 σ9 τ9 < m_Planner_joinOwn_18 σ0 τ0 a1 x2 x3 x5 σ τ) (fun z0 z1 z2 σ9 τ9 => I_Planner_joinOwn_18 σ0 τ0 a1 z0 z1 z2 σ9 τ9 ∧ m_Planner_joinOwn_18 σ0 τ0 a1 z0 z1 z2 σ9 τ9 < m_Planner_joinOwn_18 σ0 τ0 a1 x2 x3 x5 σ τ) (Q_Planner_joinOwn σ0 τ0 a1) := by
  obtain ⟨rfl, hfr, n, k, q, hn, rfl, rfl, hk, hk0, rfl, hq, hx3, hok, hlo, hhi, hmin⟩ := h
  have hp := jo_pow hn
  have hqk := zb_sub hq
  have hkI : (nI k).toInt = k := z_nI (by omega)
  have hqI : (nI q).toInt = q := z_nI (by omega)
  have hkc : (nI k).toNatClampNeg = k := nI_clamp (by omega)
  have hqc : (nI q).toNatClampNeg = q := nI_clamp (by omega)
  have h00 : (0 : Int32).toInt = 0 := rfl
  unfold s_Planner_joinOwn_18
  refine ⟨fun hc => ?_, fun hc => ?_⟩
  · rw [z_le, hqI, h00] at hc
    have hq0 : q = 0 := by omega
    subst hq0
    refine ⟨z_in.mpr ⟨by omega, by omega⟩, fun t76 ht y hy => ?_⟩
    have hy' : y = nI (k - 1) := by
      rw [hy, z_eq, z_add, hkI, z_nI (by omega)]
      · show (k : Int) + (-1) = _
        omega
      · rw [hkI]; show _ ≤ (k : Int) + (-1); omega
      · rw [hkI]; show (k : Int) + (-1) < _; omega
    subst ht
    subst hy'
    rw [hkc]
    refine ⟨⟨rfl, fun c h => by rw [sl2_ne h]; exact hfr c h, n, k - 1, hn, rfl, rfl, by omega, hok, fun S hS => ?_, fun S h1 h2 => ?_⟩, ?_⟩
    · rw [sl2_at, if_neg (by omega)]
      exact hlo S (by omega)
    · rw [lz, sl2_at]
      by_cases e : S = k
      · subst e
        rw [if_pos ⟨rfl, rfl⟩]
        exact ⟨hx3, hmin⟩
      · rw [if_neg (by omega)]
        exact hhi S h1 (by omega)
    · unfold m_Planner_joinOwn_4 m_Planner_joinOwn_18
      rw [hkI, hqI, z_nI (by omega)]
      omega
  · rw [z_le, hqI, h00] at hc
    have hq0 : 0 < q := by omega
    have hin : vp_in (nI q) 128 := z_in.mpr ⟨by omega, by omega⟩
    have hτ21 : τ 21 = τ0 21 := hfr 21 (by decide)
    have hsub1 : nI q - 1 = nI (q - 1) := pk_sub (a := q) (b := 1) hq0
    have hnext : (nI q - 1) &&& nI k = nI ((q - 1) &&& k) := by rw [hsub1, zb_and]
    have hlt : (q - 1) &&& k < q := Nat.lt_of_le_of_lt Nat.and_le_left (by omega)
    have hmeas : ∀ y : Int32, y = nI ((q - 1) &&& k) → ∀ x, m_Planner_joinOwn_18 σ τ0 (nI (2 ^ n)) (nI k) x y σ τ < m_Planner_joinOwn_18 σ τ0 (nI (2 ^ n)) (nI k) x3 (nI q) σ τ := by
      intro y hy x
      unfold m_Planner_joinOwn_18
      rw [hy, hqI, z_nI (k := (q - 1) &&& k) (by omega)]
      omega
    have hall : ∀ T, (∀ j, T.testBit j = true → k.testBit j = true) → (q - 1) &&& k < T → T = q ∨ q < T := by
      intro T hT h9
      rcases Nat.lt_or_ge T q with z | z
      · have := dp_next q k T hq0 hq hT z
        omega
      · omega
    refine ⟨hin, fun he => ?_, fun he => ?_⟩
    · rw [zl_cmp0, hqc, hτ21] at he
      unfold s_Planner_joinOwn_59
      intro y hy
      rw [hnext] at hy
      subst hy
      refine ⟨⟨rfl, hfr, n, k, (q - 1) &&& k, hn, rfl, rfl, hk, hk0, rfl, dp_andsub, hx3, hok, hlo, hhi, hmin.1, fun T x h1 h2 h3 => ?_, hmin.2.2⟩, hmeas _ rfl _⟩
      rcases hall T h2 h1 with e | e
      · subst e
        unfold ow at h3
        rw [if_pos he] at h3
        cases h3
      · exact hmin.2.1 T x e h2 h3
    · rw [zl_cmp0, hqc, hτ21] at he
      have hxor : nI k ^^^ nI q = nI (k ^^^ q) := zb_xor k q
      have hxl : k ^^^ q < 128 := Nat.xor_lt_two_pow (n := 7) (by omega) (by omega)
      have hxk : k ^^^ q ≤ k := by
        apply zb_sub
        intro j hj
        rw [Nat.testBit_xor] at hj
        have := hq j
        cases hkj : k.testBit j <;> cases hqj : q.testBit j <;> simp [hkj, hqj] at hj this ⊢
      have hxc : (nI (k ^^^ q)).toNatClampNeg = k ^^^ q := nI_clamp (by omega)
      rw [hxor, hqc, hxc]
      refine ⟨hin, z_in.mpr ⟨by rw [z_nI (by omega)]; omega, by rw [z_nI (by omega)]; omega⟩, fun v hv => ?_⟩
      unfold s_Planner_joinOwn_59
      intro y hy
      rw [hnext] at hy
      subst hy
      have hoq := (hok q (by omega)).2
      have hoq2 : 0 ≤ (τ0 21 q).toInt ∧ (τ0 21 q).toInt < 17592186044416 := hoq.elim (fun z => absurd z he) id
      have hox := (hok (k ^^^ q) (by omega)).1
      rw [hτ21, hlo (k ^^^ q) hxk] at hv
      have hsum : (τ0 21 q + τ0 20 (k ^^^ q)).toInt = (τ0 21 q).toInt + (τ0 20 (k ^^^ q)).toInt := zl_add (by omega) (by omega)
      have how : ow τ0 q = some (lz τ0 21 q) := by unfold ow; rw [if_neg he]
      have hv2 : v.toInt = if (τ0 21 q).toInt + (τ0 20 (k ^^^ q)).toInt < x3.toInt then (τ0 21 q).toInt + (τ0 20 (k ^^^ q)).toInt else x3.toInt := by
        rw [hv]
        by_cases z : (τ0 21 q).toInt + (τ0 20 (k ^^^ q)).toInt < x3.toInt
        · rw [if_pos (by rw [zl_lt, hsum]; exact z), if_pos z, hsum]
        · rw [if_neg (by rw [zl_lt, hsum]; exact z), if_neg z]
      obtain ⟨m1, m2, m3⟩ := hmin
      have hz1 : lz τ0 21 q = (τ0 21 q).toInt.toNat := rfl
      have hz2 : lz τ0 20 (k ^^^ q) = (τ0 20 (k ^^^ q)).toInt.toNat := rfl
      refine ⟨⟨rfl, hfr, n, k, (q - 1) &&& k, hn, rfl, rfl, hk, hk0, rfl, dp_andsub, ?_, hok, hlo, hhi, ?_, fun T x h1 h2 h3 => ?_, ?_⟩, hmeas _ rfl _⟩
      · clear m3; rw [hv2]; split <;> omega
      · clear m3; rw [hv2]; split <;> omega
      · rcases hall T h2 h1 with e | e
        · subst e
          rw [how] at h3
          cases h3
          clear m3; rw [hv2]; split <;> omega
        · have := m2 T x e h2 h3
          clear m3; rw [hv2]; split <;> omega
      · by_cases z : (τ0 21 q).toInt + (τ0 20 (k ^^^ q)).toInt < x3.toInt
        · refine Or.inr ⟨q, lz τ0 21 q, hq, how, ?_⟩
          rw [hv2, if_pos z]
          omega
        · rw [hv2, if_neg z]
          exact m3
theorem c_Planner_joinOwn (l : Launch) (D : va_G) (ad : Nat → Nat) (ci cl : ClassId) : ∀ (sz : Nat) (σ0 : MI) (τ0 : ML) (a1 : Int32), P_Planner_joinOwn σ0 τ0 a1 → gMv l D (xw ad ci cl) (xt ci cl) (xa ad) y_Planner_joinOwn w_Planner_joinOwn rm_Planner_joinOwn [.ref (ad 19), .int a1] sz σ0 τ0 (Q_Planner_joinOwn σ0 τ0 a1) :=
  k_Planner_joinOwn l D ad ci cl P_Planner_joinOwn Q_Planner_joinOwn I_Planner_joinOwn_4 m_Planner_joinOwn_4 I_Planner_joinOwn_18 m_Planner_joinOwn_18 v_Planner_joinOwn_0 v_Planner_joinOwn_4 v_Planner_joinOwn_18
def P_Planner_digits (σ : MI) (τ : ML) (a0 a1 a2 : Int32) : Prop := vp_in a0 128 ∧ vp_in a1 8 ∧ vp_in a2 5
def dgs (dg S n : Nat) : Nat := dp_sb (fun j => dg * 8 ^ (6 - j)) S n
def Q_Planner_digits (σ : MI) (τ : ML) (a0 a1 a2 : Int32) (r : Int64) (σ' : MI) (τ' : ML) : Prop := σ = σ' ∧ τ = τ' ∧ r = lN (dgs a2.toNatClampNeg a0.toNatClampNeg a1.toNatClampNeg)
def I_Planner_digits_5 (σ0 : MI) (τ0 : ML) (a0 a1 a2 x0 x1 x2 : Int32) (x3 : Int64) (x5 : Int32) (σ : MI) (τ : ML) : Prop :=
  σ0 = σ ∧ τ0 = τ ∧ a0 = x0 ∧ a1 = x1 ∧ a2 = x2 ∧ P_Planner_digits σ0 τ0 a0 a1 a2 ∧ ∃ i, i ≤ a1.toNatClampNeg ∧ x5 = nI i ∧ x3 = lN (dgs a2.toNatClampNeg a0.toNatClampNeg i)
def m_Planner_digits_5 (σ0 : MI) (τ0 : ML) (a0 a1 a2 x0 x1 x2 : Int32) (x3 : Int64) (x5 : Int32) (σ : MI) (τ : ML) : Nat := 100 - x5.toNatClampNeg
theorem v_Planner_digits_0 (σ0 : MI) (τ0 : ML) (a0 : Int32) (a1 : Int32) (a2 : Int32) (h : P_Planner_digits σ0 τ0 a0 a1 a2) : s_Planner_digits_0 P_Planner_digitShift Q_Planner_digitShift σ0 τ0 a0 a1 a2 (fun z0 z1 z2 z3 z4 σ9 τ9 => I_Planner_digits_5 σ0 τ0 a0 a1 a2 z0 z1 z2 z3 z4 σ9 τ9) (Q_Planner_digits σ0 τ0 a0 a1 a2) := by
  unfold s_Planner_digits_0
  exact ⟨rfl, rfl, rfl, rfl, rfl, h, 0, Nat.zero_le _, rfl, rfl⟩
theorem v_Planner_digits_5 (σ0 : MI) (τ0 : ML) (a0 : Int32) (a1 : Int32) (a2 : Int32) (x0 : Int32) (x1 : Int32) (x2 : Int32) (x3 : Int64) (x5 : Int32) (σ : MI) (τ : ML) (h : I_Planner_digits_5 σ0 τ0 a0 a1 a2 x0 x1 x2 x3 x5 σ τ) : s_Planner_digits_5 P_Planner_digitShift Q_Planner_digitShift σ τ x0 x1 x2 x3 x5 (fun z0 z1 z2 z3 z4 σ9 τ9 => I_Planner_digits_5 σ0 τ0 a0 a1 a2 z0 z1 z2 z3 z4 σ9 τ9 ∧ m_Planner_digits_5 σ0 τ0 a0 a1 a2 z0 z1 z2 z3 z4 σ9 τ9 < m_Planner_digits_5 σ0 τ0 a0 a1 a2 x0 x1 x2 x3 x5 σ τ) (Q_Planner_digits σ0 τ0 a0 a1 a2) := by
  obtain ⟨rfl, rfl, rfl, rfl, rfl, hP, i, hi, rfl, rfl⟩ := h
  obtain ⟨S, hS, rfl⟩ := vp_in_of hP.1 (by decide)
  obtain ⟨n, hn, rfl⟩ := vp_in_of hP.2.1 (by decide)
  obtain ⟨dg, hdg, rfl⟩ := vp_in_of hP.2.2 (by decide)
  have hcS : (nI S).toNatClampNeg = S := nI_clamp (by omega)
  have hcn : (nI n).toNatClampNeg = n := nI_clamp (by omega)
  have hcd : (nI dg).toNatClampNeg = dg := nI_clamp (by omega)
  rw [hcn] at hi
  unfold s_Planner_digits_5
  rw [nI_leI (by omega) (by omega), bit_0 (by omega) (by omega)]
  have hm : ∀ (u : Int64) (y : Int32), i < n → y = nI i + 1 → m_Planner_digits_5 σ0 τ0 (nI S) (nI n) (nI dg) (nI S) (nI n) (nI dg) u y σ0 τ0 < m_Planner_digits_5 σ0 τ0 (nI S) (nI n) (nI dg) (nI S) (nI n) (nI dg) (lN (dgs (nI dg).toNatClampNeg (nI S).toNatClampNeg i)) (nI i) σ0 τ0 := by
    intro u y hl hy
    unfold m_Planner_digits_5
    rw [hy, nI_1, nI_clamp (by omega), nI_clamp (by omega)]
    omega
  refine ⟨fun c => ⟨rfl, rfl, ?_⟩, fun c => ⟨fun c2 y hy => ⟨⟨rfl, rfl, rfl, rfl, rfl, hP, i + 1, by rw [hcn]; omega, by rw [hy, nI_1], ?_⟩, hm _ _ (by omega) hy⟩, fun c2 => ⟨trivial, fun r s t hq => ?_⟩⟩⟩
  · have e : i = n := by omega
    rw [hcn, e]
  · rw [hcS, hcd]
    show lN (dp_sb _ S i) = lN (dp_sb _ S i + (if S.testBit i then dg * 8 ^ (6 - i) else 0))
    rw [c2]
    simp
  · obtain ⟨rfl, rfl, rfl⟩ := hq
    intro y30 h30 y31 h31
    have e1 : (3 : Int32) * (6 - nI i) = nI (3 * (6 - i)) := by
      have : (6 : Int32) - nI i = nI (6 - i) := pk_sub (a := 6) (b := i) (by omega)
      rw [this]
      exact pk_mul 3 (6 - i)
    refine ⟨⟨rfl, rfl, rfl, rfl, rfl, hP, i + 1, by rw [hcn]; omega, by rw [h31, nI_1], ?_⟩, hm _ _ (by omega) h31⟩
    rw [h30, e1, nI_l (by omega), wb_shl _ (by omega), lN_add, hcS, hcd]
    show lN (dp_sb _ S i + dg * 2 ^ (3 * (6 - i))) = lN (dp_sb _ S i + (if S.testBit i then dg * 8 ^ (6 - i) else 0))
    have hb : S.testBit i = true := by simpa using c2
    rw [hb, Nat.pow_mul]
    rfl
theorem c_Planner_digits (l : Launch) (D : va_G) (ad : Nat → Nat) (ci cl : ClassId) : ∀ (sz : Nat) (σ0 : MI) (τ0 : ML) (a0 : Int32) (a1 : Int32) (a2 : Int32), P_Planner_digits σ0 τ0 a0 a1 a2 → gMl l D (xw ad ci cl) (xt ci cl) (xa ad) y_Planner_digits w_Planner_digits rm_Planner_digits [.int a0, .int a1, .int a2] sz σ0 τ0 (Q_Planner_digits σ0 τ0 a0 a1 a2) :=
  k_Planner_digits l D ad ci cl P_Planner_digits Q_Planner_digits P_Planner_digitShift Q_Planner_digitShift (c_Planner_digitShift l D ad ci cl) I_Planner_digits_5 m_Planner_digits_5 v_Planner_digits_0 v_Planner_digits_5
def P_Planner_giveToNobody (σ : MI) (τ : ML) (a1 : Int32) : Prop := vp_in a1 8
def nbd (S n : Nat) : Nat := dp_sb (fun _ => 1) S n * 1099511627776 + dgs 4 S n
def Q_Planner_giveToNobody (σ : MI) (τ : ML) (a1 : Int32) (σ' : MI) (τ' : ML) : Prop := σ = σ' ∧ (∀ c, c ≠ 20 → τ' c = τ c) ∧ ∀ S, S < 2 ^ a1.toNatClampNeg → τ' 20 S = lN (nbd S a1.toNatClampNeg)
def I_Planner_giveToNobody_6 (σ0 : MI) (τ0 : ML) (a1 x1 x2 x3 : Int32) (σ : MI) (τ : ML) : Prop :=
  σ0 = σ ∧ a1 = x1 ∧ P_Planner_giveToNobody σ0 τ0 a1 ∧ x2 = nI (2 ^ a1.toNatClampNeg) ∧ (∀ c, c ≠ 20 → τ c = τ0 c) ∧ ∃ i, i ≤ 2 ^ a1.toNatClampNeg ∧ x3 = nI i ∧ ∀ S, S < i → τ 20 S = lN (nbd S a1.toNatClampNeg)
def m_Planner_giveToNobody_6 (σ0 : MI) (τ0 : ML) (a1 x1 x2 x3 : Int32) (σ : MI) (τ : ML) : Nat := 1000 - x3.toNatClampNeg
theorem v_Planner_giveToNobody_0 (σ0 : MI) (τ0 : ML) (a1 : Int32) (h : P_Planner_giveToNobody σ0 τ0 a1) : s_Planner_giveToNobody_0 P_Integer_bitCount Q_Integer_bitCount P_Planner_digits Q_Planner_digits σ0 τ0 a1 (fun z0 z1 z2 σ9 τ9 => I_Planner_giveToNobody_6 σ0 τ0 a1 z0 z1 z2 σ9 τ9) (Q_Planner_giveToNobody σ0 τ0 a1) := by
  unfold s_Planner_giveToNobody_0
  intro y hy
  obtain ⟨n, hn, rfl⟩ := vp_in_of h (by decide)
  refine ⟨rfl, rfl, h, ?_, fun _ _ => rfl, 0, Nat.zero_le _, rfl, fun S hS => absurd hS (Nat.not_lt_zero S)⟩
  rw [hy, zb_one (by omega), nI_clamp (by omega)]
theorem v_Planner_giveToNobody_6 (σ0 : MI) (τ0 : ML) (a1 : Int32) (x1 : Int32) (x2 : Int32) (x3 : Int32) (σ : MI) (τ : ML) (h : I_Planner_giveToNobody_6 σ0 τ0 a1 x1 x2 x3 σ τ) : s_Planner_giveToNobody_6 P_Integer_bitCount Q_Integer_bitCount P_Planner_digits Q_Planner_digits σ τ x1 x2 x3 (fun z0 z1 z2 σ9 τ9 => I_Planner_giveToNobody_6 σ0 τ0 a1 z0 z1 z2 σ9 τ9 ∧ m_Planner_giveToNobody_6 σ0 τ0 a1 z0 z1 z2 σ9 τ9 < m_Planner_giveToNobody_6 σ0 τ0 a1 x1 x2 x3 σ τ) (Q_Planner_giveToNobody σ0 τ0 a1) := by
  obtain ⟨rfl, rfl, hP, rfl, hfr, i, hi, rfl, hall⟩ := h
  obtain ⟨n, hn, rfl⟩ := vp_in_of hP (by decide)
  have hcn : (nI n).toNatClampNeg = n := nI_clamp (by omega)
  rw [hcn] at hi hall
  have hp := jo_pow (n := n) (by omega)
  unfold s_Planner_giveToNobody_6
  rw [hcn, nI_leI (by omega) (by omega)]
  refine ⟨fun c => ⟨rfl, hfr, fun S hS => ?_⟩, fun c => ⟨vp_in_nI (by omega) (by decide), fun r s t hq => ?_⟩⟩
  · rw [hcn] at hS ⊢
    exact hall S (by omega)
  · obtain ⟨rfl, rfl, rfl⟩ := hq
    intro y hy
    refine ⟨⟨vp_in_nI (by omega) (by decide), hP, vp_in_nI (n := 4) (by decide) (by decide)⟩, fun r s t hq => ?_⟩
    obtain ⟨rfl, rfl, rfl⟩ := hq
    refine ⟨vp_in_nI (by omega) (by decide), fun t35 h35 y36 h36 => ?_⟩
    have hci : (nI i).toNatClampNeg = i := nI_clamp (by omega)
    rw [hci] at hy h35
    have hpc : pcn i ≤ 7 := by
      have := dp_sb_le (g := fun _ => 1) (S := i) 1 (fun _ => Nat.le_refl 1) 7
      unfold pcn; omega
    have hy2 : y = lN (pcn i * 2 ^ 40) := by
      rw [hy, nI_l (by omega)]
      exact wb_shl (pcn i) (k := 40) (by decide)
    have hpn : pcn i = dp_sb (fun _ => 1) i n := dp_sb_ext (by omega) (by omega)
    rw [hy2, hcn, lN_add] at h35
    subst h35
    refine ⟨⟨rfl, rfl, hP, by rw [hcn], fun c hc => by rw [sl2_ne hc]; exact hfr c hc, i + 1, by rw [hcn]; omega, by rw [h36, nI_1], fun S hS => ?_⟩, ?_⟩
    · rw [sl2_at, hcn]
      by_cases e : S = i
      · subst e
        rw [if_pos ⟨rfl, rfl⟩]
        unfold nbd
        rw [← hpn]
        rfl
      · rw [if_neg (fun z => e z.2)]
        exact hall S (by omega)
    · unfold m_Planner_giveToNobody_6
      rw [h36, nI_1, nI_clamp (by omega), hci]
      omega
theorem c_Planner_giveToNobody (l : Launch) (D : va_G) (ad : Nat → Nat) (ci cl : ClassId) : ∀ (sz : Nat) (σ0 : MI) (τ0 : ML) (a1 : Int32), P_Planner_giveToNobody σ0 τ0 a1 → gMv l D (xw ad ci cl) (xt ci cl) (xa ad) y_Planner_giveToNobody w_Planner_giveToNobody rm_Planner_giveToNobody [.ref (ad 19), .int a1] sz σ0 τ0 (Q_Planner_giveToNobody σ0 τ0 a1) :=
  k_Planner_giveToNobody l D ad ci cl P_Planner_giveToNobody Q_Planner_giveToNobody P_Integer_bitCount Q_Integer_bitCount P_Planner_digits Q_Planner_digits (c_Integer_bitCount l D ad ci cl) (c_Planner_digits l D ad ci cl) I_Planner_giveToNobody_6 m_Planner_giveToNobody_6 v_Planner_giveToNobody_0 v_Planner_giveToNobody_6
