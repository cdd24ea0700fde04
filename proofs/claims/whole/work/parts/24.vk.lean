/-- the class's plan is the due one -/
def PLX (σ : MI) : Prop :=
  Orx σ ∧ ADX σ ∧ σ 22 1 = nI (barm (vx σ)) ∧ OPT (vx σ) (barm (vx σ)) (adx σ) ∧
  σ 22 2 = nI (smP (fun p => cnp (od (vx σ) (nJ (vx σ))) (adx σ) p (nJ (vx σ))) (nP (vx σ))) ∧
  σ 22 3 = nI (smP (fun p => trs (vx σ) (od (vx σ) (nJ (vx σ))) (adx σ) p (nJ (vx σ))) (nP (vx σ))) ∧
  (∀ l, l < nJ (vx σ) → σ 24 (od (vx σ) (nJ (vx σ)) l) = if adx σ (od (vx σ) (nJ (vx σ)) l) < nP (vx σ) then nI (ttn (vx σ) (od (vx σ) (nJ (vx σ))) (adx σ) (adx σ (od (vx σ) (nJ (vx σ)) l)) l) else -1) ∧
  ∃ t, tgs (vx σ) (od (vx σ) (nJ (vx σ))) (adx σ) (nJ (vx σ)) t ∧ (∀ j, j < nJ (vx σ) → σ 25 j = nI (t j)) ∧ ∀ j, j < nJ (vx σ) → σ 26 j = if adx σ j ≠ 4 ∧ 0 < vx σ 10 j ∧ t j = 0 then 1 else 0
def P_PT_makePlan (σ : MI) (τ : ML) : Prop := Vd (vx σ)
def Q_PT_makePlan (σ : MI) (τ : ML) (σ' : MI) (τ' : ML) : Prop :=
  (∀ c, c ≠ 20 → c ≠ 21 → τ' c = τ c) ∧ (∀ c, c ∉ [7, 14, 22, 23, 24, 25, 26] → σ' c = σ c) ∧ σ' 7 = bump (σ 7) (vx σ) (nP (vx σ)) ∧ σ' 22 0 = 1 ∧ PLX σ'
theorem vx_plan {σ σ0 : MI} (h : ∀ c, c ∉ [7, 14, 22, 23, 24, 25, 26] → σ c = σ0 c) : vx σ = vx σ0 :=
  vx_congr (by rw [h 1 (by decide)]) (by rw [h 8 (by decide)]) (by rw [h 15 (by decide)]) (by rw [h 17 (by decide)]) (fun c hc => h c (by intro h2; simp only [List.mem_cons, List.not_mem_nil, or_false] at hc h2; omega))
theorem dp_ok_congr {tr : Nat → Nat → Option Nat} {a a' : Nat → Nat} {S n p : Nat} (h : ∀ j, j < n → a j = a' j) (hk : dp_ok tr a S n p) : dp_ok tr a' S n p := by
  refine ⟨fun j hj hS => by rw [← h j hj]; exact hk.1 j hj hS, fun q hq => ?_⟩
  obtain ⟨t, ht⟩ := hk.2 q hq
  refine ⟨t, ?_⟩
  rw [← ht]
  congr 1
  exact dp_of_congr (fun j hj => by rw [h j hj])
theorem dp_cost_congr {tr : Nat → Nat → Option Nat} {a a' : Nat → Nat} {S n p : Nat} (h : ∀ j, j < n → a j = a' j) : dp_cost tr a S n p = dp_cost tr a' S n p := by
  unfold dp_cost dp_none dp_dig
  rw [dp_tv_congr p (fun q _ => dp_of_congr (S' := S) (fun j hj => by rw [h j hj])), dp_sb_congr (g' := fun j => if a' j = 4 then 1 else 0) n (fun j hj _ => by rw [h j hj]), dp_sb_congr (g := fun j => a j * 8 ^ (6 - j)) (g' := fun j => a' j * 8 ^ (6 - j)) n (fun j hj _ => by rw [h j hj])]
theorem OPT_congr {d : Dt} {B : Nat} {a a' : Nat → Nat} (h : ∀ j, j < nJ d → a j = a' j) (ho : OPT d B a) : OPT d B a' :=
  ⟨dp_ok_congr h ho.1, fun b hb => by rw [← dp_cost_congr h]; exact ho.2 b hb⟩
theorem OPT_4 {d : Dt} {B : Nat} {a : Nat → Nat} (hd : Vd d) (ho : OPT d B a) {j : Nat} (hj : j < nJ d) : a j < nP d ∨ a j = 4 :=
  ho.1.1 j hj (by rw [Nat.testBit_two_pow_sub_one]; simp [hj])
theorem cost_arr (x y z : Nat) : x * 1099511627776 + y * 2097152 + z = (x * 524288 + y) * 2097152 + z := by
  rw [Nat.add_mul, Nat.mul_assoc]
theorem OPT_uniq {d : Dt} {B : Nat} {a a' : Nat → Nat} (hd : Vd d) (h : OPT d B a) (h' : OPT d B a') : ∀ j, j < nJ d → a j = a' j := by
  have hn := hd.nJl
  have hnp := hd.nPl
  have e : dp_cost (trb d B) a (2 ^ nJ d - 1) (nJ d) (nP d) = dp_cost (trb d B) a' (2 ^ nJ d - 1) (nJ d) (nP d) := Nat.le_antisymm (h.2 a' h'.1) (h'.2 a h.1)
  have c1 : ∀ j, j < nJ d → a j ≤ 4 := fun j hj => by rcases OPT_4 hd h hj with z | z <;> omega
  have c2 : ∀ j, j < nJ d → a' j ≤ 4 := fun j hj => by rcases OPT_4 hd h' hj with z | z <;> omega
  intro j hj
  have d1 := dp_digits (a := a) (n := nJ d) (X := dp_none a (2 ^ nJ d - 1) (nJ d) * 524288 + dp_tv (trb d B) a (2 ^ nJ d - 1) (nJ d) (nP d)) hn.1 c1 j hj
  have d2 := dp_digits (a := a') (n := nJ d) (X := dp_none a' (2 ^ nJ d - 1) (nJ d) * 524288 + dp_tv (trb d B) a' (2 ^ nJ d - 1) (nJ d) (nP d)) hn.1 c2 j hj
  unfold dp_cost at e
  rw [cost_arr, cost_arr] at e
  rw [e] at d1
  rw [← d1, ← d2]
theorem barm_lt {d : Dt} (hd : Vd d) : barm d < 16 := by
  have hnp := hd.nPl
  have h1 := dp_mk_lt (flp d) (nP d)
  have h2 : 2 ^ nP d ≤ 2 ^ 4 := Nat.pow_le_pow_right (by decide) hnp.1
  unfold barm
  omega
theorem v_PT_makePlan_0 (σ0 : MI) (τ0 : ML) (h : P_PT_makePlan σ0 τ0) : s_PT_makePlan_0 P_Jobs_putInOrder Q_Jobs_putInOrder P_People_askRules Q_People_askRules P_Planner_divide Q_Planner_divide P_Plan_walk Q_Plan_walk P_Tugs_serve Q_Tugs_serve σ0 τ0 (Q_PT_makePlan σ0 τ0) := by
  have hd : Vd (vx σ0) := h
  unfold s_PT_makePlan_0
  refine ⟨h, fun s4 t4 q4 => ?_⟩
  obtain ⟨f4, rfl, o4⟩ := q4
  have e4 := vx_14 f4
  refine ⟨by unfold P_People_askRules; rw [e4]; exact hd, fun r19 s19 t19 q19 => ?_⟩
  obtain ⟨f19, rfl, rfl, b19⟩ := q19
  have e19 := vx_7 f19
  rw [e4] at e19
  intro s22 h22
  have e22 : vx s22 = vx σ0 := by
    rw [← e19, h22]
    exact vx_congr rfl rfl rfl rfl (fun c hc => st2_ne (by rintro rfl; exact absurd hc (by decide)))
  have hB := barm_lt hd
  have hs22 : s22 22 1 = nI (barm (vx σ0)) := by rw [h22, st2_at, if_pos ⟨rfl, rfl⟩, e4]
  have hc22 : (s22 22 1).toNatClampNeg = barm (vx σ0) := by rw [hs22]; exact nI_clamp (by omega)
  have o22 : Orx s22 := by
    unfold Orx at o4 ⊢
    rw [e22]
    rw [e4] at o4
    intro k hk
    rw [h22, st2_ne (by decide), f19 14 (by decide)]
    exact o4 k hk
  refine ⟨⟨by rw [e22]; exact hd, o22, by rw [hs22]; exact vp_in_nI (by omega) (by decide)⟩, fun s45 t45 q45 => ?_⟩
  obtain ⟨f45, g45, a, hopt, ha⟩ := q45
  have e45 := vx_23 f45
  rw [e22] at e45
  rw [e22, hc22] at hopt
  rw [e22] at ha
  have a4 : ∀ j, j < nJ (vx σ0) → a j ≤ 4 := fun j hj => by
    have := hd.nPl
    rcases OPT_4 hd hopt hj with z | z <;> omega
  have hadx : ∀ j, j < nJ (vx σ0) → adx s45 j = a j := fun j hj => adx_of (a4 j hj) (ha j hj)
  have o45 : Orx s45 := by
    unfold Orx at o22 ⊢
    rw [e45]
    rw [e22] at o22
    rw [f45 14 (by decide)]
    exact o22
  have ad45 : ADX s45 := by
    unfold ADX
    rw [e45]
    intro j hj
    rw [hadx j hj]
    exact ⟨ha j hj, a4 j hj⟩
  refine ⟨⟨by rw [e45]; exact hd, o45, ad45⟩, fun s64 t64 q64 => ?_⟩
  obtain ⟨rfl, f64, w0, w1, w2, w3, w4⟩ := q64
  have e64 := vx_22 f64
  have ea64 : adx s64 = adx s45 := by funext j; unfold adx; rw [f64 23 (by decide) (by decide)]
  rw [e45] at e64
  have o64 : Orx s64 := by
    unfold Orx at o45 ⊢
    rw [e64]
    rw [e45] at o45
    rw [f64 14 (by decide) (by decide)]
    exact o45
  have ad64 : ADX s64 := by
    unfold ADX at ad45 ⊢
    rw [e64, ea64, f64 23 (by decide) (by decide)]
    rw [e45] at ad45
    exact ad45
  refine ⟨⟨by rw [e64]; exact hd, o64, ad64⟩, fun s79 t79 q79 => ?_⟩
  obtain ⟨rfl, f79, t, ht, h25, h26⟩ := q79
  have e79 := vx_25 f79
  rw [e64] at e79
  intro s87 h87
  have e87 : vx s87 = vx σ0 := by
    rw [← e79, h87]
    exact vx_congr rfl rfl rfl rfl (fun c hc => st2_ne (by rintro rfl; exact absurd hc (by decide)))
  have n87 : ∀ c, c ≠ 22 → s87 c = s79 c := fun c hc => by rw [h87, st2_ne hc]
  have ea87 : adx s87 = adx s45 := by funext j; unfold adx; rw [n87 23 (by decide), f79 23 (by decide) (by decide), f64 23 (by decide) (by decide)]
  have v87 : ∀ i, i ≠ 0 → s87 22 i = s64 22 i := fun i hi => by rw [h87, st2_at, if_neg (by omega), f79 22 (by decide) (by decide)]
  rw [e64, ea64] at ht h26
  rw [e64] at h25
  rw [e45] at w2 w3 w4
  refine ⟨g45, fun c hc => ?_, ?_, ?_, ?_, ?_, ?_, ?_, ?_, ?_, ?_, t, ?_, ?_, ?_⟩
  · simp only [List.mem_cons, List.not_mem_nil, or_false, not_or] at hc
    rw [n87 c (by omega), f79 c (by omega) (by omega), f64 c (by omega) (by omega), f45 c (by omega), h22, st2_ne (by omega), f19 c (by omega), f4 c (by omega)]
  · rw [n87 7 (by decide), f79 7 (by decide) (by decide), f64 7 (by decide) (by decide), f45 7 (by decide), h22, st2_ne (by decide), b19, e4, f4 7 (by decide)]
  · rw [h87, st2_at, if_pos ⟨rfl, rfl⟩]
  · unfold Orx at o64 ⊢
    rw [e87]
    rw [e64] at o64
    rw [n87 14 (by decide), f79 14 (by decide) (by decide)]
    exact o64
  · unfold ADX at ad64 ⊢
    rw [e87, ea87]
    rw [e64, ea64] at ad64
    rw [n87 23 (by decide), f79 23 (by decide) (by decide)]
    exact ad64
  · rw [e87, v87 1 (by decide), w1, f45 22 (by decide)]; exact hs22
  · rw [e87, ea87]
    exact OPT_congr (fun j hj => (hadx j hj).symm) hopt
  · rw [e87, ea87, v87 2 (by decide)]; exact w2
  · rw [e87, ea87, v87 3 (by decide)]; exact w3
  · rw [e87, ea87, n87 24 (by decide), f79 24 (by decide) (by decide)]; exact w4
  · rw [e87, ea87]; exact ht
  · rw [e87, n87 25 (by decide)]; exact h25
  · rw [e87, ea87, n87 26 (by decide)]; exact h26
theorem c_PT_makePlan (l : Launch) (D : va_G) (ad : Nat → Nat) (ci cl : ClassId) : ∀ (sz : Nat) (σ0 : MI) (τ0 : ML), P_PT_makePlan σ0 τ0 → gMv l D (xw ad ci cl) (xt ci cl) (xa ad) y_PT_makePlan w_PT_makePlan rm_PT_makePlan [.ref (ad 0)] sz σ0 τ0 (Q_PT_makePlan σ0 τ0) :=
  k_PT_makePlan l D ad ci cl P_PT_makePlan Q_PT_makePlan P_Jobs_putInOrder Q_Jobs_putInOrder P_People_askRules Q_People_askRules P_Planner_divide Q_Planner_divide P_Plan_walk Q_Plan_walk P_Tugs_serve Q_Tugs_serve (c_Jobs_putInOrder l D ad ci cl) (c_People_askRules l D ad ci cl) (c_Planner_divide l D ad ci cl) (c_Plan_walk l D ad ci cl) (c_Tugs_serve l D ad ci cl) v_PT_makePlan_0
