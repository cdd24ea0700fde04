def P_Mo_count (σ : MI) (τ : ML) (a1 : Int32) : Prop := Vd (vm σ) ∧ (σ 29 18 ≠ 0 → PLM σ)
def Q_Mo_count (σ : MI) (τ : ML) (a1 r : Int32) (σ' : MI) (τ' : ML) : Prop := τ = τ' ∧ σ' = st2 σ 29 0 0 ∧ cnf (σ 29 1) (σ 29 8) (σ 29 10) (σ 29 18) (nI (gvn σ)) (σ 29 21) (σ 35) a1 r
theorem gvn_290 {σ : MI} {v : Int32} : gvn (st2 σ 29 0 v) = gvn σ := by
  unfold gvn av; rw [vm_290, st2_ne (by decide)]
theorem v_Mo_count_0 (σ0 : MI) (τ0 : ML) (a1 : Int32) (h : P_Mo_count σ0 τ0 a1) : s_Mo_count_0 P_Mo_givenMany Q_Mo_givenMany P_Mo_isPerson Q_Mo_isPerson σ0 τ0 a1 (Q_Mo_count σ0 τ0 a1) := by
  obtain ⟨hd, hL⟩ := id h
  have h4 := hd.1
  simp only [vm] at h4
  unfold s_Mo_count_0
  intro s2 h2
  have g1 : s2 29 1 = σ0 29 1 := by rw [h2, st2_at, if_neg (by decide)]
  have g8 : s2 29 8 = σ0 29 8 := by rw [h2, st2_at, if_neg (by decide)]
  have g10 : s2 29 10 = σ0 29 10 := by rw [h2, st2_at, if_neg (by decide)]
  have g18 : s2 29 18 = σ0 29 18 := by rw [h2, st2_at, if_neg (by decide)]
  have g21 : s2 29 21 = σ0 29 21 := by rw [h2, st2_at, if_neg (by decide)]
  have g35 : s2 35 = σ0 35 := by rw [h2, st2_ne (by decide)]
  rw [g1, g8, g10, g18, g21]
  refine ⟨fun c => ⟨fun e => ⟨rfl, h2, cnf_case 0 e ?_⟩, fun e0 => ⟨fun e => ⟨rfl, h2, cnf_case 1 e ?_⟩, fun e1 => ⟨fun e => ⟨rfl, h2, cnf_case 2 e ?_⟩, fun e2 => ⟨fun e => ⟨fun m => ⟨rfl, h2, cnf_case 3 e ?_⟩, fun m => ⟨rfl, h2, cnf_case 3 e ?_⟩⟩, fun e3 => ⟨fun e => ⟨fun m => ⟨rfl, h2, cnf_case 4 e ?_⟩, fun m => ⟨⟨by rw [h2, vm_290]; exact hd, by rw [h2]; exact (PLM_290 (hL m)).1⟩, fun r112 s112 t112 q112 => ?_⟩⟩, fun e4 => ⟨fun e => ⟨fun m => ⟨rfl, h2, cnf_case 5 e ?_⟩, fun m => ⟨rfl, h2, cnf_case 5 e ?_⟩⟩, fun e5 => ⟨rfl, h2, ?_⟩⟩⟩⟩⟩⟩⟩, fun c => ⟨trivial, fun r13 s13 t13 q => ?_⟩⟩
  · exact ⟨fun _ => rfl, fun z => absurd z (by decide), fun z => absurd z (by decide), fun z => absurd z (by decide), fun z => absurd z (by decide), fun z => absurd z (by decide), fun z => absurd z (by decide), fun _ z => absurd rfl z⟩
  · exact ⟨fun z => absurd z (by decide), fun _ => rfl, fun z => absurd z (by decide), fun z => absurd z (by decide), fun z => absurd z (by decide), fun z => absurd z (by decide), fun z => absurd z (by decide), fun _ _ z => absurd rfl z⟩
  · exact ⟨fun z => absurd z (by decide), fun z => absurd z (by decide), fun _ => rfl, fun z => absurd z (by decide), fun z => absurd z (by decide), fun z => absurd z (by decide), fun z => absurd z (by decide), fun _ _ _ z => absurd rfl z⟩
  · exact ⟨fun z => absurd z (by decide), fun z => absurd z (by decide), fun z => absurd z (by decide), fun _ => ⟨fun _ => rfl, fun z => absurd m z⟩, fun z => absurd z (by decide), fun z => absurd z (by decide), fun z => absurd z (by decide), fun _ _ _ _ z => absurd rfl z⟩
  · exact ⟨fun z => absurd z (by decide), fun z => absurd z (by decide), fun z => absurd z (by decide), fun _ => ⟨fun z => absurd z m, fun _ => rfl⟩, fun z => absurd z (by decide), fun z => absurd z (by decide), fun z => absurd z (by decide), fun _ _ _ _ z => absurd rfl z⟩
  · exact ⟨fun z => absurd z (by decide), fun z => absurd z (by decide), fun z => absurd z (by decide), fun z => absurd z (by decide), fun _ => ⟨fun _ => rfl, fun z => absurd m z⟩, fun z => absurd z (by decide), fun z => absurd z (by decide), fun _ _ _ _ _ z => absurd rfl z⟩
  · obtain ⟨rfl, rfl, hr⟩ := q112
    have hr2 : r112 = nI (gvn σ0) := by rw [hr, ← gvn_290 (σ := σ0) (v := 0), ← h2]; rfl
    subst hr2
    refine ⟨rfl, h2, cnf_case 4 e ?_⟩
    exact ⟨fun z => absurd z (by decide), fun z => absurd z (by decide), fun z => absurd z (by decide), fun z => absurd z (by decide), fun _ => ⟨fun z => absurd z m, fun _ => rfl⟩, fun z => absurd z (by decide), fun z => absurd z (by decide), fun _ _ _ _ _ z => absurd rfl z⟩
  · exact ⟨fun z => absurd z (by decide), fun z => absurd z (by decide), fun z => absurd z (by decide), fun z => absurd z (by decide), fun z => absurd z (by decide), fun _ => ⟨fun _ => rfl, fun z => absurd m z⟩, fun z => absurd z (by decide), fun _ _ _ _ _ _ z => absurd rfl z⟩
  · exact ⟨fun z => absurd z (by decide), fun z => absurd z (by decide), fun z => absurd z (by decide), fun z => absurd z (by decide), fun z => absurd z (by decide), fun _ => ⟨fun z => absurd z m, fun _ => rfl⟩, fun z => absurd z (by decide), fun _ _ _ _ _ _ z => absurd rfl z⟩
  · rw [z_lt, zc_10] at c
    exact ⟨fun z => absurd z e0, fun z => absurd z e1, fun z => absurd z e2, fun z => absurd z e3, fun z => absurd z e4, fun z => absurd z e5, fun z => absurd c (by omega), fun _ _ _ _ _ _ _ => rfl⟩
  · obtain ⟨rfl, rfl, hr⟩ := q
    rw [z_lt, zc_10] at c
    have ey : (a1 - 10).toInt = a1.toInt - 10 := by
      have := z_rng a1
      rw [z_sub (by rw [zc_10]; omega) (by rw [zc_10]; omega), zc_10]
    have hk : ∀ k : Int32, k.toInt < 10 → ¬ a1 = k := by
      rintro k hk rfl
      omega
    rw [ey, g1] at hr
    refine ⟨fun c2 => ⟨rfl, h2, ?_⟩, fun c2 => ⟨z_in.mpr (by have := rb_1 hr c2; omega), rfl, h2, ?_⟩⟩
    · have := rb_0 hr c2
      exact ⟨fun z => absurd z (hk 0 (by decide)), fun z => absurd z (hk 1 (by decide)), fun z => absurd z (hk 2 (by decide)), fun z => absurd z (hk 3 (by decide)), fun z => absurd z (hk 4 (by decide)), fun z => absurd z (hk 5 (by decide)), fun _ => ⟨fun z => absurd z (by omega), fun _ => rfl⟩, fun z => absurd z (by omega)⟩
    · have := rb_1 hr c2
      rw [z_cl, ey, g35]
      exact ⟨fun z => absurd z (hk 0 (by decide)), fun z => absurd z (hk 1 (by decide)), fun z => absurd z (hk 2 (by decide)), fun z => absurd z (hk 3 (by decide)), fun z => absurd z (hk 4 (by decide)), fun z => absurd z (hk 5 (by decide)), fun _ => ⟨fun _ => rfl, fun z => absurd this.2 z⟩, fun z => absurd z (by omega)⟩
theorem c_Mo_count (l : Launch) (D : va_G) (ad : Nat → Nat) (ci cl : ClassId) : ∀ (sz : Nat) (σ0 : MI) (τ0 : ML) (a1 : Int32), P_Mo_count σ0 τ0 a1 → gMi l D (xw ad ci cl) (xt ci cl) (xa ad) y_Mo_count w_Mo_count rm_Mo_count [.ref (ad 29), .int a1] sz σ0 τ0 (Q_Mo_count σ0 τ0 a1) :=
  k_Mo_count l D ad ci cl P_Mo_count Q_Mo_count P_Mo_givenMany Q_Mo_givenMany P_Mo_isPerson Q_Mo_isPerson (c_Mo_givenMany l D ad ci cl) (c_Mo_isPerson l D ad ci cl) v_Mo_count_0
def w5 (t : Nat → Nat) : Nat → Nat
  | 0 => 0
  | i + 1 => 5 * w5 t i + t i
theorem w5_lt {t : Nat → Nat} {n : Nat} (h : ∀ j, j < n → t j ≤ 4) : ∀ i, i ≤ n → w5 t i < 5 ^ i := by
  intro i
  induction i with
  | zero => intro _; exact Nat.lt_succ_self 0
  | succ i ih =>
    intro hi
    have := ih (by omega)
    have := h i (by omega)
    rw [Nat.pow_succ]
    unfold w5
    omega
def lok (d : Dt) (a1 a2 : Int32) : Prop := (0 ≤ a2.toInt ∧ a2.toInt ≤ 2880) ∧ a2.toInt + (d 12 a1.toNatClampNeg - d 11 a1.toNatClampNeg) ≤ 2880
def mlate (σ : MI) (a1 a2 : Int32) : MI := st2 (st2 (st2 σ 29 0 0) 39 a1.toNatClampNeg a2) 40 a1.toNatClampNeg (a2 + σ 40 a1.toNatClampNeg - σ 39 a1.toNatClampNeg)
def P_Mo_late (σ : MI) (τ : ML) (a1 a2 : Int32) : Prop := Vd (vm σ) ∧ (σ 29 18 ≠ 0 → PLM σ)
def Q_Mo_late (σ : MI) (τ : ML) (a1 a2 r : Int32) (σ' : MI) (τ' : ML) : Prop :=
  (¬ inP (σ 29 10).toInt a1 ∧ τ = τ' ∧ σ' = st2 σ 29 0 1) ∨ (inP (σ 29 10).toInt a1 ∧ ¬ lok (vm σ) a1 a2 ∧ τ = τ' ∧ σ' = st2 σ 29 0 2) ∨ (inP (σ 29 10).toInt a1 ∧ lok (vm σ) a1 a2 ∧ σ 29 18 = 0 ∧ τ = τ' ∧ σ' = st2 σ 29 0 3) ∨
  (inP (σ 29 10).toInt a1 ∧ lok (vm σ) a1 a2 ∧ σ 29 18 ≠ 0 ∧ Vd (vm (mlate σ a1 a2)) ∧ Q_Mo_search (mlate σ a1 a2) τ σ' τ' ∧ r = nI (cnt (fun j => decide (av σ 43 j ≠ av σ' 43 j)) (nJ (vm σ))))
def I_Mo_late_95 (σ0 : MI) (τ0 : ML) (a1 a2 x1 x2 x3 x4 x5 : Int32) (σ : MI) (τ : ML) : Prop :=
  τ0 = τ ∧ a1 = x1 ∧ a2 = x2 ∧ Vd (vm σ0) ∧ PLM σ0 ∧ σ0 29 18 ≠ 0 ∧ inP (σ0 29 10).toInt a1 ∧ lok (vm σ0) a1 a2 ∧ σ = st2 σ0 29 0 0 ∧ x3 = a2 + σ0 40 a1.toNatClampNeg - σ0 39 a1.toNatClampNeg ∧ ∃ i, i ≤ nJ (vm σ0) ∧ x5 = nI i ∧ x4 = nI (w5 (av σ0 43) i)
def I_Mo_late_153 (σ0 : MI) (τ0 : ML) (a1 a2 x4 x5 x6 : Int32) (σ : MI) (τ : ML) : Prop :=
  Vd (vm σ0) ∧ PLM σ0 ∧ σ0 29 18 ≠ 0 ∧ inP (σ0 29 10).toInt a1 ∧ lok (vm σ0) a1 a2 ∧ Vd (vm (mlate σ0 a1 a2)) ∧ nJ (vm (mlate σ0 a1 a2)) = nJ (vm σ0) ∧ nP (vm (mlate σ0 a1 a2)) = nP (vm σ0) ∧ Q_Mo_search (mlate σ0 a1 a2) τ0 σ τ ∧ ∃ i, i ≤ nJ (vm σ0) ∧ x6.toInt = (i : Int) - 1 ∧ x4 = nI (w5 (av σ0 43) i) ∧ x5 = nI (cnt (fun j => decide (av σ0 43 j ≠ av σ 43 j)) (nJ (vm σ0)) - cnt (fun j => decide (av σ0 43 j ≠ av σ 43 j)) i)
def m_Mo_late_95 (σ0 : MI) (τ0 : ML) (a1 a2 x1 x2 x3 x4 x5 : Int32) (σ : MI) (τ : ML) : Nat := 1000 - x5.toNatClampNeg
def m_Mo_late_153 (σ0 : MI) (τ0 : ML) (a1 a2 x4 x5 x6 : Int32) (σ : MI) (τ : ML) : Nat := (x6.toInt + 1).toNat
theorem nI_div5 {a : Nat} (h : a < 2147483648) : nI a / 5 = nI (a / 5) := by
  rw [z_eq, z_nI (by omega), Int32.toInt_div, z_nI h, zc_5]
  have e : (a : Int).tdiv 5 = ((a / 5 : Nat) : Int) := by rw [Int.tdiv_eq_ediv_of_nonneg (Int.natCast_nonneg a)]; rfl
  rw [e]
  exact Int.bmod_eq_of_le (by omega) (by omega)
theorem nI_mod5 {a : Nat} (h : a < 2147483648) : nI a - nI a / 5 * 5 = nI (a % 5) := by
  rw [nI_div5 h]
  have e : (5 : Int32) = nI 5 := rfl
  rw [e, nI_mul, z_eq, z_nI (by omega)]
  have h1 := z_nI (k := a) (by omega)
  have h2 := z_nI (k := a / 5 * 5) (by omega)
  rw [z_sub (by omega) (by omega), h1, h2]
  omega
theorem vm_late {σ : MI} (hd : Vd (vm σ)) {a1 a2 : Int32} (hj : inP (σ 29 10).toInt a1) (hl : lok (vm σ) a1 a2) : Vd (vm (mlate σ a1 a2)) ∧ nJ (vm (mlate σ a1 a2)) = nJ (vm σ) ∧ nP (vm (mlate σ a1 a2)) = nP (vm σ) := by
  have hn := hd.nJl
  have e8 := vm_8 hd
  have hjn : a1.toNatClampNeg < nJ (vm σ) := by
    unfold inP at hj
    rw [e8, z_nI (by omega)] at hj
    rw [z_cl]; omega
  have hsp := hd.span hjn
  have hjob := hd.job (j := a1.toNatClampNeg) (by omega)
  unfold lok at hl
  have e11 : vm σ 11 a1.toNatClampNeg = (σ 39 a1.toNatClampNeg).toInt := rfl
  have e12 : vm σ 12 a1.toNatClampNeg = (σ 40 a1.toNatClampNeg).toInt := rfl
  rw [e11, e12] at hl hsp hjob
  have f1 : ∀ i, mlate σ a1 a2 39 i = if i = a1.toNatClampNeg then a2 else σ 39 i := fun i => by
    unfold mlate
    rw [st2_at, if_neg (by omega), st2_at]
    by_cases z : i = a1.toNatClampNeg
    · rw [if_pos ⟨rfl, z⟩, if_pos z]
    · rw [if_neg (fun q => z q.2), if_neg z, st2_ne (by decide)]
  have s1 : (a2 + σ 40 a1.toNatClampNeg).toInt = a2.toInt + (σ 40 a1.toNatClampNeg).toInt := z_add (by omega) (by omega)
  have s2 : (a2 + σ 40 a1.toNatClampNeg - σ 39 a1.toNatClampNeg).toInt = a2.toInt + (σ 40 a1.toNatClampNeg).toInt - (σ 39 a1.toNatClampNeg).toInt := by rw [z_sub (by omega) (by omega), s1]
  have f2 : ∀ i, mlate σ a1 a2 40 i = if i = a1.toNatClampNeg then a2 + σ 40 a1.toNatClampNeg - σ 39 a1.toNatClampNeg else σ 40 i := fun i => by
    unfold mlate
    rw [st2_at]
    by_cases z : i = a1.toNatClampNeg
    · rw [if_pos ⟨rfl, z⟩, if_pos z]
    · rw [if_neg (fun q => z q.2), if_neg z, st2_ne (by decide), st2_ne (by decide)]
  have f3 : ∀ c, c ≠ 29 → c ≠ 39 → c ≠ 40 → mlate σ a1 a2 c = σ c := fun c h1 h2 h3 => by
    unfold mlate; rw [st2_ne h3, st2_ne h2, st2_ne h1]
  have f4 : ∀ i, i ≠ 0 → mlate σ a1 a2 29 i = σ 29 i := fun i hi => by
    unfold mlate; rw [st2_ne (by decide), st2_ne (by decide), st2_at, if_neg (by omega)]
  have g : ∀ c, c ≠ 11 → c ≠ 12 → vm (mlate σ a1 a2) c = vm σ c := by
    intro c h1 h2
    funext i
    unfold vm
    split
    · rw [f4 1 (by decide)]
    · rw [f3 30 (by decide) (by decide) (by decide)]
    · rw [f3 31 (by decide) (by decide) (by decide)]
    · rw [f3 32 (by decide) (by decide) (by decide)]
    · rw [f3 33 (by decide) (by decide) (by decide)]
    · rw [f3 34 (by decide) (by decide) (by decide)]
    · rw [f4 10 (by decide)]
    · rw [f3 37 (by decide) (by decide) (by decide)]
    · rw [f3 38 (by decide) (by decide) (by decide)]
    · exact absurd rfl h1
    · exact absurd rfl h2
    · rw [f3 41 (by decide) (by decide) (by decide)]
    · rw [f4 8 (by decide)]
    · rw [f3 36 (by decide) (by decide) (by decide)]
    · rw [f4 17 (by decide)]
    · rw [f3 42 (by decide) (by decide) (by decide)]
    · rfl
  have g11 : ∀ i, vm (mlate σ a1 a2) 11 i = if i = a1.toNatClampNeg then a2.toInt else vm σ 11 i := fun i => by
    show (mlate σ a1 a2 39 i).toInt = _
    rw [f1]; split <;> rfl
  have g12 : ∀ i, vm (mlate σ a1 a2) 12 i = if i = a1.toNatClampNeg then a2.toInt + (σ 40 a1.toNatClampNeg).toInt - (σ 39 a1.toNatClampNeg).toInt else vm σ 12 i := fun i => by
    show (mlate σ a1 a2 40 i).toInt = _
    rw [f2]
    split
    · exact s2
    · rfl
  have eJ : nJ (vm (mlate σ a1 a2)) = nJ (vm σ) := by unfold nJ; rw [g 8 (by decide) (by decide)]
  have eP : nP (vm (mlate σ a1 a2)) = nP (vm σ) := by unfold nP; rw [g 1 (by decide) (by decide)]
  refine ⟨⟨?_, ?_, ?_, ?_, fun p hp => ?_, fun j hj => ?_, fun t ht => ?_, fun k hk => ?_, fun j hj => ?_⟩, eJ, eP⟩
  · rw [g 1 (by decide) (by decide)]; exact hd.1
  · rw [g 8 (by decide) (by decide)]; exact hd.2.1
  · rw [g 15 (by decide) (by decide)]; exact hd.2.2.1
  · rw [g 17 (by decide) (by decide)]; exact hd.rest
  · rw [g 2 (by decide) (by decide), g 3 (by decide) (by decide), g 4 (by decide) (by decide), g 5 (by decide) (by decide), g 6 (by decide) (by decide)]; exact hd.ppl hp
  · have hx := hd.job hj
    rw [g 9 (by decide) (by decide), g 10 (by decide) (by decide), g 13 (by decide) (by decide), g11, g12]
    refine ⟨hx.1, hx.2.1, ?_, ?_, hx.2.2.2.2⟩
    · split
      · omega
      · exact hx.2.2.1
    · split
      · omega
      · exact hx.2.2.2.1
  · rw [g 16 (by decide) (by decide)]; exact hd.tug ht
  · rw [g 18 (by decide) (by decide)]; exact hd.way hk
  · rw [eJ] at hj
    rw [g11, g12]
    split
    · omega
    · exact hd.span hj
theorem v_Mo_late_0 (σ0 : MI) (τ0 : ML) (a1 : Int32) (a2 : Int32) (h : P_Mo_late σ0 τ0 a1 a2) : s_Mo_late_0 P_Mo_isJob Q_Mo_isJob P_Mo_in Q_Mo_in P_Mo_search Q_Mo_search σ0 τ0 a1 a2 (fun z0 z1 z2 z3 z4 σ9 τ9 => I_Mo_late_95 σ0 τ0 a1 a2 z0 z1 z2 z3 z4 σ9 τ9) (fun z0 z1 z2 σ9 τ9 => I_Mo_late_153 σ0 τ0 a1 a2 z0 z1 z2 σ9 τ9) (Q_Mo_late σ0 τ0 a1 a2) := by
  obtain ⟨hd, hL⟩ := id h
  have hn := hd.nJl
  have e8 := vm_8 hd
  have h80 : ∀ (v x3 : Int32) (s77 : MI), ¬ v ≤ 0 → s77 = st2 σ0 29 0 v → Q_Mo_late σ0 τ0 a1 a2 0 s77 τ0 → s_Mo_late_80 P_Mo_isJob Q_Mo_isJob P_Mo_in Q_Mo_in P_Mo_search Q_Mo_search s77 τ0 a1 a2 x3 (fun z0 z1 z2 z3 z4 σ9 τ9 => I_Mo_late_95 σ0 τ0 a1 a2 z0 z1 z2 z3 z4 σ9 τ9) (fun z0 z1 z2 σ9 τ9 => I_Mo_late_153 σ0 τ0 a1 a2 z0 z1 z2 σ9 τ9) (Q_Mo_late σ0 τ0 a1 a2) := by
    intro v x3 s77 hv hs hQ
    have e0 : s77 29 0 = v := by rw [hs, st2_at, if_pos ⟨rfl, rfl⟩]
    unfold s_Mo_late_80
    rw [e0]
    exact ⟨fun c => absurd c hv, fun _ => hQ⟩
  have h41 : ∀ x3 : Int32, (inP (σ0 29 10).toInt a1 → (x3.toInt ≤ 2880 ↔ lok (vm σ0) a1 a2) ∧ (lok (vm σ0) a1 a2 → x3 = a2 + σ0 40 a1.toNatClampNeg - σ0 39 a1.toNatClampNeg)) → s_Mo_late_41 P_Mo_isJob Q_Mo_isJob P_Mo_in Q_Mo_in P_Mo_search Q_Mo_search σ0 τ0 a1 a2 x3 (fun z0 z1 z2 z3 z4 σ9 τ9 => I_Mo_late_95 σ0 τ0 a1 a2 z0 z1 z2 z3 z4 σ9 τ9) (fun z0 z1 z2 σ9 τ9 => I_Mo_late_153 σ0 τ0 a1 a2 z0 z1 z2 σ9 τ9) (Q_Mo_late σ0 τ0 a1 a2) := by
    intro x3 hx
    unfold s_Mo_late_41
    refine ⟨trivial, fun r44 s44 t44 hq => ?_⟩
    obtain ⟨rfl, rfl, hr⟩ := hq
    refine ⟨fun c => ?_, fun c s77 h77 => h80 1 x3 s77 (by decide) h77 (Or.inl ⟨rb_0 hr c, rfl, h77⟩)⟩
    have hin : inP (σ0 29 10).toInt a1 := rb_1 hr c
    obtain ⟨hx1, hx2⟩ := hx hin
    rw [z_le, zc_2880, hx1]
    refine ⟨fun c2 => ⟨fun c3 s77 h77 => h80 3 x3 s77 (by decide) h77 (Or.inr (Or.inr (Or.inl ⟨hin, c2, c3, rfl, h77⟩))), fun c3 s77 h77 => ?_⟩, fun c2 s77 h77 => h80 2 x3 s77 (by decide) h77 (Or.inr (Or.inl ⟨hin, c2, rfl, h77⟩))⟩
    have e0 : s77 29 0 = 0 := by rw [h77, st2_at, if_pos ⟨rfl, rfl⟩]
    unfold s_Mo_late_80
    rw [e0]
    exact ⟨fun _ => ⟨rfl, rfl, rfl, hd, hL c3, c3, hin, c2, h77, hx2 c2, 0, Nat.zero_le _, rfl, rfl⟩, fun c => absurd (by decide) c⟩
  have z2881 : (2881 : Int32).toInt = 2881 := rfl
  unfold s_Mo_late_0
  refine ⟨trivial, fun r2 s2 t2 hq => ?_⟩
  obtain ⟨rfl, rfl, hr⟩ := hq
  refine ⟨fun c => h41 2881 (fun z => absurd z (rb_0 hr c)), fun c => ⟨trivial, fun r13 s13 t13 hq => ?_⟩⟩
  obtain ⟨rfl, rfl, h13⟩ := hq
  rw [zc_0, zc_2880] at h13
  have hin : inP (σ0 29 10).toInt a1 := rb_1 hr c
  have hjn : a1.toNatClampNeg < nJ (vm σ0) := by
    have := hin
    unfold inP at this
    rw [e8, z_nI (by omega)] at this
    rw [z_cl]; omega
  have h7 : vp_in a1 7 := by
    have := hin
    unfold inP at this
    rw [e8, z_nI (by omega)] at this
    rw [z_in]; omega
  have hsp := hd.span hjn
  have hjob := hd.job (j := a1.toNatClampNeg) (by omega)
  have e11 : vm σ0 11 a1.toNatClampNeg = (σ0 39 a1.toNatClampNeg).toInt := rfl
  have e12 : vm σ0 12 a1.toNatClampNeg = (σ0 40 a1.toNatClampNeg).toInt := rfl
  refine ⟨fun c2 => h41 2881 (fun _ => ⟨⟨fun z => absurd z (by rw [z2881]; decide), fun z => absurd z.1 (rb_0 h13 c2)⟩, fun z => absurd z.1 (rb_0 h13 c2)⟩), fun c2 => ⟨h7, h7, fun y40 h40 => h41 y40 (fun _ => ⟨?_, fun _ => h40⟩)⟩⟩
  have h01 := rb_1 h13 c2
  unfold lok
  rw [e11, e12] at hjob hsp
  rw [e11, e12]
  have s1 : (a2 + σ0 40 a1.toNatClampNeg).toInt = a2.toInt + (σ0 40 a1.toNatClampNeg).toInt := z_add (by omega) (by omega)
  have s2 : y40.toInt = a2.toInt + (σ0 40 a1.toNatClampNeg).toInt - (σ0 39 a1.toNatClampNeg).toInt := by rw [h40, z_sub (by omega) (by omega), s1]
  rw [s2]
  omega
theorem v_Mo_late_95 (σ0 : MI) (τ0 : ML) (a1 : Int32) (a2 : Int32) (x1 : Int32) (x2 : Int32) (x3 : Int32) (x4 : Int32) (x5 : Int32) (σ : MI) (τ : ML) (h : I_Mo_late_95 σ0 τ0 a1 a2 x1 x2 x3 x4 x5 σ τ) : s_Mo_late_95 P_Mo_isJob Q_Mo_isJob P_Mo_in Q_Mo_in P_Mo_search Q_Mo_search σ τ x1 x2 x3 x4 x5 (fun z0 z1 z2 z3 z4 σ9 τ9 => I_Mo_late_95 σ0 τ0 a1 a2 z0 z1 z2 z3 z4 σ9 τ9 ∧ m_Mo_late_95 σ0 τ0 a1 a2 z0 z1 z2 z3 z4 σ9 τ9 < m_Mo_late_95 σ0 τ0 a1 a2 x1 x2 x3 x4 x5 σ τ) (fun z0 z1 z2 σ9 τ9 => I_Mo_late_153 σ0 τ0 a1 a2 z0 z1 z2 σ9 τ9 ∧ m_Mo_late_153 σ0 τ0 a1 a2 z0 z1 z2 σ9 τ9 < m_Mo_late_95 σ0 τ0 a1 a2 x1 x2 x3 x4 x5 σ τ) (Q_Mo_late σ0 τ0 a1 a2) := by
  obtain ⟨rfl, rfl, rfl, hd, hPL, hpl, hin, hlk, rfl, rfl, i, hi, rfl, rfl⟩ := h
  have hn := hd.nJl
  have hnp := hd.nPl
  have e8 := vm_8 hd
  have hci : (nI i).toNatClampNeg = i := nI_clamp (by omega)
  have e10 : (st2 σ0 29 0 0) 29 10 = nI (nJ (vm σ0)) := by rw [st2_at, if_neg (by decide)]; exact e8
  have h7 : vp_in a1 7 := by
    have := hin
    unfold inP at this
    rw [e8, z_nI (by omega)] at this
    rw [z_in]; omega
  have hle4 : ∀ j, j < nJ (vm σ0) → av σ0 43 j ≤ 4 := fun j hj => by have := (hPL.1 j hj).2; omega
  have hw := w5_lt hle4
  unfold s_Mo_late_95
  rw [e10, nI_leI (by omega) (by omega), hci]
  refine ⟨fun c => ⟨h7, fun s130 h130 => ⟨h7, fun s137 h137 => ?_⟩⟩, fun c => ⟨vp_in_nI (by omega) (by decide), fun y116 h116 y118 h118 => ⟨⟨rfl, rfl, rfl, hd, hPL, hpl, hin, hlk, rfl, rfl, i + 1, by omega, by rw [h118, nI_1], ?_⟩, ?_⟩⟩⟩
  · have e : i = nJ (vm σ0) := by omega
    subst e
    have hm : s137 = mlate σ0 a1 a2 := by rw [h137, h130]; rfl
    subst hm
    obtain ⟨v1, v2, v3⟩ := vm_late hd hin hlk
    refine ⟨v1, fun s139 t139 hq y151 h151 => ⟨⟨hd, hPL, hpl, hin, hlk, v1, v2, v3, hq, nJ (vm σ0), Nat.le_refl _, ?_, rfl, ?_⟩, ?_⟩⟩
    · have : s139 29 10 = nI (nJ (vm σ0)) := by
        rw [hq.2.2.1 10 (by decide) (by decide)]
        show (mlate σ0 a1 a2) 29 10 = _
        unfold mlate
        rw [st2_ne (by decide), st2_ne (by decide)]
        exact e10
      rw [h151, this]
      have hz := z_nI (k := nJ (vm σ0)) (by omega)
      rw [z_sub (by rw [zc_1]; omega) (by rw [zc_1]; omega), hz, zc_1]
    · rw [Nat.sub_self]; rfl
    · have : s139 29 10 = nI (nJ (vm σ0)) := by
        rw [hq.2.2.1 10 (by decide) (by decide)]
        show (mlate σ0 a1 a2) 29 10 = _
        unfold mlate
        rw [st2_ne (by decide), st2_ne (by decide)]
        exact e10
      unfold m_Mo_late_153 m_Mo_late_95
      have hz := z_nI (k := nJ (vm σ0)) (by omega)
      rw [h151, this, z_sub (by rw [zc_1]; omega) (by rw [zc_1]; omega), hz, zc_1, hci]
      omega
  · rw [h116, st2_ne (by decide), (hPL.1 i (by omega)).1]
    have : (5 : Int32) = nI 5 := rfl
    rw [this, nI_mul, nI_add]
    rfl
  · unfold m_Mo_late_95
    rw [h118, nI_1, hci, nI_clamp (by omega)]
    omega
theorem v_Mo_late_153 (σ0 : MI) (τ0 : ML) (a1 : Int32) (a2 : Int32) (x4 : Int32) (x5 : Int32) (x6 : Int32) (σ : MI) (τ : ML) (h : I_Mo_late_153 σ0 τ0 a1 a2 x4 x5 x6 σ τ) : s_Mo_late_153 P_Mo_isJob Q_Mo_isJob P_Mo_in Q_Mo_in P_Mo_search Q_Mo_search σ τ x4 x5 x6 (fun z0 z1 z2 z3 z4 σ9 τ9 => I_Mo_late_95 σ0 τ0 a1 a2 z0 z1 z2 z3 z4 σ9 τ9 ∧ m_Mo_late_95 σ0 τ0 a1 a2 z0 z1 z2 z3 z4 σ9 τ9 < m_Mo_late_153 σ0 τ0 a1 a2 x4 x5 x6 σ τ) (fun z0 z1 z2 σ9 τ9 => I_Mo_late_153 σ0 τ0 a1 a2 z0 z1 z2 σ9 τ9 ∧ m_Mo_late_153 σ0 τ0 a1 a2 z0 z1 z2 σ9 τ9 < m_Mo_late_153 σ0 τ0 a1 a2 x4 x5 x6 σ τ) (Q_Mo_late σ0 τ0 a1 a2) := by
  obtain ⟨hd, hPL, hpl, hin, hlk, v1, v2, v3, hq, i, hi, hx6, rfl, rfl⟩ := h
  have hn := hd.nJl
  have hnp := hd.nPl
  have hle4 : ∀ j, j < nJ (vm σ0) → av σ0 43 j ≤ 4 := fun j hj => by have := (hPL.1 j hj).2; omega
  have hw := w5_lt hle4 i hi
  have h57 : 5 ^ i ≤ 5 ^ 7 := Nat.pow_le_pow_right (by decide) (by omega)
  have hevm := srch_vm hq
  have hPL' := hq.2.2.2.2.2
  unfold s_Mo_late_153
  rw [z_lt, hx6, zc_0]
  refine ⟨fun c => Or.inr (Or.inr (Or.inr ⟨hin, hlk, hpl, v1, hq, ?_⟩)), fun c => ?_⟩
  · have e : i = 0 := by omega
    subst e
    rfl
  · obtain ⟨j, rfl⟩ : ∃ j, i = j + 1 := ⟨i - 1, by omega⟩
    have ex : x6 = nI j := by rw [z_eq, z_nI (by omega), hx6]; omega
    subst ex
    have hcj : (nI j).toNatClampNeg = j := nI_clamp (by omega)
    have hA := hPL'.1 j (by rw [hevm, v2]; omega)
    have h4 := hle4 j (by omega)
    have hAp := hA.2
    rw [hevm, v3] at hAp
    have e5 : w5 (av σ0 43) (j + 1) = 5 * w5 (av σ0 43) j + av σ0 43 j := rfl
    have hmod : nI (w5 (av σ0 43) (j + 1)) - nI (w5 (av σ0 43) (j + 1)) / 5 * 5 = nI (av σ0 43 j) := by
      rw [nI_mod5 (by omega)]
      congr 1
      omega
    have hdiv : nI (w5 (av σ0 43) (j + 1)) / 5 = nI (w5 (av σ0 43) j) := by
      rw [nI_div5 (by omega)]
      congr 1
      omega
    have hc1 : cnt (fun j => decide (av σ0 43 j ≠ av σ 43 j)) (j + 1) = cnt (fun j => decide (av σ0 43 j ≠ av σ 43 j)) j + (if decide (av σ0 43 j ≠ av σ 43 j) = true then 1 else 0) := rfl
    have hc2 : cnt (fun j => decide (av σ0 43 j ≠ av σ 43 j)) (j + 1) ≤ cnt (fun j => decide (av σ0 43 j ≠ av σ 43 j)) (nJ (vm σ0)) := by
      have key : ∀ (f : Nat → Bool) n k, k ≤ n → cnt f k ≤ cnt f n := by
        intro f n
        induction n with
        | zero => intro k hk; have : k = 0 := by omega
                  subst this; exact Nat.le_refl _
        | succ n ih =>
          intro k hk
          by_cases e : k = n + 1
          · subst e; exact Nat.le_refl _
          · have := ih k (by omega)
            show _ ≤ cnt f n + _
            omega
      exact key _ _ _ (by omega)
    have h182 : ∀ y180 : Int32, y180 = nI (cnt (fun j => decide (av σ0 43 j ≠ av σ 43 j)) (nJ (vm σ0)) - cnt (fun j => decide (av σ0 43 j ≠ av σ 43 j)) j) → s_Mo_late_182 P_Mo_isJob Q_Mo_isJob P_Mo_in Q_Mo_in P_Mo_search Q_Mo_search σ τ (nI (w5 (av σ0 43) (j + 1))) y180 (nI j) (fun z0 z1 z2 z3 z4 σ9 τ9 => I_Mo_late_95 σ0 τ0 a1 a2 z0 z1 z2 z3 z4 σ9 τ9 ∧ m_Mo_late_95 σ0 τ0 a1 a2 z0 z1 z2 z3 z4 σ9 τ9 < m_Mo_late_153 σ0 τ0 a1 a2 (nI (w5 (av σ0 43) (j + 1))) (nI (cnt (fun j => decide (av σ0 43 j ≠ av σ 43 j)) (nJ (vm σ0)) - cnt (fun j => decide (av σ0 43 j ≠ av σ 43 j)) (j + 1))) (nI j) σ τ) (fun z0 z1 z2 σ9 τ9 => I_Mo_late_153 σ0 τ0 a1 a2 z0 z1 z2 σ9 τ9 ∧ m_Mo_late_153 σ0 τ0 a1 a2 z0 z1 z2 σ9 τ9 < m_Mo_late_153 σ0 τ0 a1 a2 (nI (w5 (av σ0 43) (j + 1))) (nI (cnt (fun j => decide (av σ0 43 j ≠ av σ 43 j)) (nJ (vm σ0)) - cnt (fun j => decide (av σ0 43 j ≠ av σ 43 j)) (j + 1))) (nI j) σ τ) (Q_Mo_late σ0 τ0 a1 a2) := by
      intro y180 h180
      unfold s_Mo_late_182
      refine ⟨by decide, fun y186 h186 y188 h188 => ?_⟩
      have hz := z_nI (k := j) (by omega)
      have e188 : y188.toInt = (j : Int) - 1 := by rw [h188, z_add (by rw [zc_m1]; omega) (by rw [zc_m1]; omega), hz, zc_m1]; omega
      refine ⟨⟨hd, hPL, hpl, hin, hlk, v1, v2, v3, hq, j, by omega, e188, by rw [h186]; exact hdiv, h180⟩, ?_⟩
      unfold m_Mo_late_153
      rw [e188, hz]
      omega
    rw [hmod, hcj, hA.1, nI_eq (by omega) (by omega)]
    refine ⟨by decide, vp_in_nI (by omega) (by decide), fun c2 y180 h180 => h182 y180 ?_, fun c2 y180 h180 => h182 y180 ?_⟩
    · rw [h180, hc1, if_neg (by simp [c2])]
      simp
    · rw [h180, nI_1]
      rw [hc1, if_pos (by simp [c2])] at hc2
      congr 1
      rw [hc1, if_pos (by simp [c2])]
      omega
theorem c_Mo_late (l : Launch) (D : va_G) (ad : Nat → Nat) (ci cl : ClassId) : ∀ (sz : Nat) (σ0 : MI) (τ0 : ML) (a1 : Int32) (a2 : Int32), P_Mo_late σ0 τ0 a1 a2 → gMi l D (xw ad ci cl) (xt ci cl) (xa ad) y_Mo_late w_Mo_late rm_Mo_late [.ref (ad 29), .int a1, .int a2] sz σ0 τ0 (Q_Mo_late σ0 τ0 a1 a2) :=
  k_Mo_late l D ad ci cl P_Mo_late Q_Mo_late P_Mo_isJob Q_Mo_isJob P_Mo_in Q_Mo_in P_Mo_search Q_Mo_search (c_Mo_isJob l D ad ci cl) (c_Mo_in l D ad ci cl) (c_Mo_search l D ad ci cl) I_Mo_late_95 m_Mo_late_95 I_Mo_late_153 m_Mo_late_153 v_Mo_late_0 v_Mo_late_95 v_Mo_late_153
