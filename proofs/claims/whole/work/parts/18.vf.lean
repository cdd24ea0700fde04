def P_People_add (σ : MI) (τ : ML) (a1 a2 a3 a4 : Int32) : Prop := vp_in (σ 1 0) 4
def Q_People_add (σ : MI) (τ : ML) (a1 a2 a3 a4 r : Int32) (σ' : MI) (τ' : ML) : Prop := τ = τ' ∧ r = σ 1 0 ∧ σ' = st2 (st2 (st2 (st2 (st2 σ 2 (σ 1 0).toNatClampNeg a1) 3 (σ 1 0).toNatClampNeg a2) 4 (σ 1 0).toNatClampNeg a3) 5 (σ 1 0).toNatClampNeg a4) 1 0 (σ 1 0 + 1)
theorem v_People_add_0 (σ0 : MI) (τ0 : ML) (a1 : Int32) (a2 : Int32) (a3 : Int32) (a4 : Int32) (h : P_People_add σ0 τ0 a1 a2 a3 a4) : s_People_add_0 σ0 τ0 a1 a2 a3 a4 (Q_People_add σ0 τ0 a1 a2 a3 a4) := by
  unfold s_People_add_0
  intro y hy
  subst hy
  refine ⟨h, fun s1 h1 => ⟨h, fun s2 h2 => ⟨h, fun s3 h3 => ⟨h, fun s4 h4 s5 h5 => ⟨rfl, rfl, ?_⟩⟩⟩⟩⟩
  rw [h5]
  have e : s4 1 0 = σ0 1 0 := by rw [h4, h3, h2, h1]; rfl
  rw [e, h4, h3, h2, h1]
theorem c_People_add (l : Launch) (D : va_G) (ad : Nat → Nat) (ci cl : ClassId) : ∀ (sz : Nat) (σ0 : MI) (τ0 : ML) (a1 : Int32) (a2 : Int32) (a3 : Int32) (a4 : Int32), P_People_add σ0 τ0 a1 a2 a3 a4 → gMi l D (xw ad ci cl) (xt ci cl) (xa ad) y_People_add w_People_add rm_People_add [.ref (ad 1), .int a1, .int a2, .int a3, .int a4] sz σ0 τ0 (Q_People_add σ0 τ0 a1 a2 a3 a4) :=
  k_People_add l D ad ci cl P_People_add Q_People_add v_People_add_0
def P_Jobs_add (σ : MI) (τ : ML) (a1 a2 a3 a4 a5 : Int32) : Prop := vp_in (σ 8 0) 7
def Q_Jobs_add (σ : MI) (τ : ML) (a1 a2 a3 a4 a5 r : Int32) (σ' : MI) (τ' : ML) : Prop := τ = τ' ∧ r = σ 8 0 ∧ σ' = st2 (st2 (st2 (st2 (st2 (st2 σ 9 (σ 8 0).toNatClampNeg a1) 10 (σ 8 0).toNatClampNeg a2) 11 (σ 8 0).toNatClampNeg a3) 12 (σ 8 0).toNatClampNeg a4) 13 (σ 8 0).toNatClampNeg a5) 8 0 (σ 8 0 + 1)
theorem v_Jobs_add_0 (σ0 : MI) (τ0 : ML) (a1 : Int32) (a2 : Int32) (a3 : Int32) (a4 : Int32) (a5 : Int32) (h : P_Jobs_add σ0 τ0 a1 a2 a3 a4 a5) : s_Jobs_add_0 σ0 τ0 a1 a2 a3 a4 a5 (Q_Jobs_add σ0 τ0 a1 a2 a3 a4 a5) := by
  unfold s_Jobs_add_0
  intro y hy
  subst hy
  refine ⟨h, fun s1 h1 => ⟨h, fun s2 h2 => ⟨h, fun s3 h3 => ⟨h, fun s4 h4 => ⟨h, fun s5 h5 s6 h6 => ⟨rfl, rfl, ?_⟩⟩⟩⟩⟩⟩
  rw [h6]
  have e : s5 8 0 = σ0 8 0 := by rw [h5, h4, h3, h2, h1]; rfl
  rw [e, h5, h4, h3, h2, h1]
theorem c_Jobs_add (l : Launch) (D : va_G) (ad : Nat → Nat) (ci cl : ClassId) : ∀ (sz : Nat) (σ0 : MI) (τ0 : ML) (a1 : Int32) (a2 : Int32) (a3 : Int32) (a4 : Int32) (a5 : Int32), P_Jobs_add σ0 τ0 a1 a2 a3 a4 a5 → gMi l D (xw ad ci cl) (xt ci cl) (xa ad) y_Jobs_add w_Jobs_add rm_Jobs_add [.ref (ad 8), .int a1, .int a2, .int a3, .int a4, .int a5] sz σ0 τ0 (Q_Jobs_add σ0 τ0 a1 a2 a3 a4 a5) :=
  k_Jobs_add l D ad ci cl P_Jobs_add Q_Jobs_add v_Jobs_add_0
def P_Tugs_add (σ : MI) (τ : ML) (a1 : Int32) : Prop := vp_in (σ 15 0) 6
def Q_Tugs_add (σ : MI) (τ : ML) (a1 r : Int32) (σ' : MI) (τ' : ML) : Prop := τ = τ' ∧ r = σ 15 0 ∧ σ' = st2 (st2 σ 16 (σ 15 0).toNatClampNeg a1) 15 0 (σ 15 0 + 1)
theorem v_Tugs_add_0 (σ0 : MI) (τ0 : ML) (a1 : Int32) (h : P_Tugs_add σ0 τ0 a1) : s_Tugs_add_0 σ0 τ0 a1 (Q_Tugs_add σ0 τ0 a1) := by
  unfold s_Tugs_add_0
  intro y hy
  subst hy
  refine ⟨h, fun s1 h1 s2 h2 => ⟨rfl, rfl, ?_⟩⟩
  rw [h2]
  have e : s1 15 0 = σ0 15 0 := by rw [h1]; rfl
  rw [e, h1]
theorem c_Tugs_add (l : Launch) (D : va_G) (ad : Nat → Nat) (ci cl : ClassId) : ∀ (sz : Nat) (σ0 : MI) (τ0 : ML) (a1 : Int32), P_Tugs_add σ0 τ0 a1 → gMi l D (xw ad ci cl) (xt ci cl) (xa ad) y_Tugs_add w_Tugs_add rm_Tugs_add [.ref (ad 15), .int a1] sz σ0 τ0 (Q_Tugs_add σ0 τ0 a1) :=
  k_Tugs_add l D ad ci cl P_Tugs_add Q_Tugs_add v_Tugs_add_0
def P_Ways_tell (σ : MI) (τ : ML) (a1 a2 a3 : Int32) : Prop := (0 ≤ a1.toInt ∧ a1.toInt ≤ 4) ∧ (0 ≤ a2.toInt ∧ a2.toInt ≤ 4)
def Q_Ways_tell (σ : MI) (τ : ML) (a1 a2 a3 : Int32) (σ' : MI) (τ' : ML) : Prop := τ = τ' ∧ σ' = st2 (st2 σ 18 (a1.toInt * 5 + a2.toInt).toNat a3) 18 (a2.toInt * 5 + a1.toInt).toNat a3
theorem v_Ways_tell_0 (σ0 : MI) (τ0 : ML) (a1 : Int32) (a2 : Int32) (a3 : Int32) (h : P_Ways_tell σ0 τ0 a1 a2 a3) : s_Ways_tell_0 σ0 τ0 a1 a2 a3 (Q_Ways_tell σ0 τ0 a1 a2 a3) := by
  unfold s_Ways_tell_0
  have h2 := And.intro h.2 h.1
  simp only [z_in, z_cl, bt_ix h, bt_ix h2]
  obtain ⟨h1, h3⟩ := h
  refine ⟨⟨by omega, by omega⟩, fun s1 e1 => ⟨⟨by omega, by omega⟩, fun s2 e2 => ⟨rfl, ?_⟩⟩⟩
  rw [e2, e1]
theorem c_Ways_tell (l : Launch) (D : va_G) (ad : Nat → Nat) (ci cl : ClassId) : ∀ (sz : Nat) (σ0 : MI) (τ0 : ML) (a1 : Int32) (a2 : Int32) (a3 : Int32), P_Ways_tell σ0 τ0 a1 a2 a3 → gMv l D (xw ad ci cl) (xt ci cl) (xa ad) y_Ways_tell w_Ways_tell rm_Ways_tell [.ref (ad 17), .int a1, .int a2, .int a3] sz σ0 τ0 (Q_Ways_tell σ0 τ0 a1 a2 a3) :=
  k_Ways_tell l D ad ci cl P_Ways_tell Q_Ways_tell v_Ways_tell_0
def P_Jobs_minutesOf (σ : MI) (τ : ML) (a1 : Int32) : Prop := vp_in a1 7
def Q_Jobs_minutesOf (σ : MI) (τ : ML) (a1 r : Int32) (σ' : MI) (τ' : ML) : Prop := σ = σ' ∧ τ = τ' ∧ r = σ 12 a1.toNatClampNeg - σ 11 a1.toNatClampNeg
theorem v_Jobs_minutesOf_0 (σ0 : MI) (τ0 : ML) (a1 : Int32) (h : P_Jobs_minutesOf σ0 τ0 a1) : s_Jobs_minutesOf_0 σ0 τ0 a1 (Q_Jobs_minutesOf σ0 τ0 a1) := by
  exact ⟨h, h, rfl, rfl, rfl⟩
theorem c_Jobs_minutesOf (l : Launch) (D : va_G) (ad : Nat → Nat) (ci cl : ClassId) : ∀ (sz : Nat) (σ0 : MI) (τ0 : ML) (a1 : Int32), P_Jobs_minutesOf σ0 τ0 a1 → gMi l D (xw ad ci cl) (xt ci cl) (xa ad) y_Jobs_minutesOf w_Jobs_minutesOf rm_Jobs_minutesOf [.ref (ad 8), .int a1] sz σ0 τ0 (Q_Jobs_minutesOf σ0 τ0 a1) :=
  k_Jobs_minutesOf l D ad ci cl P_Jobs_minutesOf Q_Jobs_minutesOf v_Jobs_minutesOf_0
def P_Jobs_move (σ : MI) (τ : ML) (a1 a2 : Int32) : Prop := vp_in a1 7
def Q_Jobs_move (σ : MI) (τ : ML) (a1 a2 : Int32) (σ' : MI) (τ' : ML) : Prop := τ = τ' ∧ σ' = st2 (st2 σ 12 a1.toNatClampNeg (a2 + (σ 12 a1.toNatClampNeg - σ 11 a1.toNatClampNeg))) 11 a1.toNatClampNeg a2
theorem v_Jobs_move_0 (σ0 : MI) (τ0 : ML) (a1 : Int32) (a2 : Int32) (h : P_Jobs_move σ0 τ0 a1 a2) : s_Jobs_move_0 P_Jobs_minutesOf Q_Jobs_minutesOf σ0 τ0 a1 a2 (Q_Jobs_move σ0 τ0 a1 a2) := by
  unfold s_Jobs_move_0
  refine ⟨h, fun r s t hq => ?_⟩
  obtain ⟨rfl, rfl, rfl⟩ := hq
  refine ⟨h, fun s1 e1 => ⟨h, fun s2 e2 => ⟨rfl, ?_⟩⟩⟩
  rw [e2, e1]
theorem c_Jobs_move (l : Launch) (D : va_G) (ad : Nat → Nat) (ci cl : ClassId) : ∀ (sz : Nat) (σ0 : MI) (τ0 : ML) (a1 : Int32) (a2 : Int32), P_Jobs_move σ0 τ0 a1 a2 → gMv l D (xw ad ci cl) (xt ci cl) (xa ad) y_Jobs_move w_Jobs_move rm_Jobs_move [.ref (ad 8), .int a1, .int a2] sz σ0 τ0 (Q_Jobs_move σ0 τ0 a1 a2) :=
  k_Jobs_move l D ad ci cl P_Jobs_move Q_Jobs_move P_Jobs_minutesOf Q_Jobs_minutesOf (c_Jobs_minutesOf l D ad ci cl) v_Jobs_move_0
def ovp (d : Dt) (i j : Nat) : Prop := d 11 i < d 12 j ∧ d 11 j < d 12 i
def P_Jobs_overlap (σ : MI) (τ : ML) (a1 a2 : Int32) : Prop := vp_in a1 7 ∧ vp_in a2 7
def Q_Jobs_overlap (σ : MI) (τ : ML) (a1 a2 r : Int32) (σ' : MI) (τ' : ML) : Prop := σ = σ' ∧ τ = τ' ∧ rb (ovp (vx σ) a1.toNatClampNeg a2.toNatClampNeg) r
theorem v_Jobs_overlap_0 (σ0 : MI) (τ0 : ML) (a1 : Int32) (a2 : Int32) (h : P_Jobs_overlap σ0 τ0 a1 a2) : s_Jobs_overlap_0 σ0 τ0 a1 a2 (Q_Jobs_overlap σ0 τ0 a1 a2) := by
  unfold s_Jobs_overlap_0
  refine ⟨h.1, h.2, fun c => ⟨by decide, rfl, rfl, rb_f ?_⟩, fun c => ⟨h.2, h.1, fun c2 => ⟨by decide, rfl, rfl, rb_f ?_⟩, fun c2 => ⟨by decide, rfl, rfl, rb_t ?_⟩⟩⟩
  all_goals (unfold ovp; simp only [vx])
  all_goals (simp only [z_le] at *)
  all_goals omega
theorem c_Jobs_overlap (l : Launch) (D : va_G) (ad : Nat → Nat) (ci cl : ClassId) : ∀ (sz : Nat) (σ0 : MI) (τ0 : ML) (a1 : Int32) (a2 : Int32), P_Jobs_overlap σ0 τ0 a1 a2 → gMi l D (xw ad ci cl) (xt ci cl) (xa ad) y_Jobs_overlap w_Jobs_overlap rm_Jobs_overlap [.ref (ad 8), .int a1, .int a2] sz σ0 τ0 (Q_Jobs_overlap σ0 τ0 a1 a2) :=
  k_Jobs_overlap l D ad ci cl P_Jobs_overlap Q_Jobs_overlap v_Jobs_overlap_0
def P_Plan_keepDoers (σ : MI) (τ : ML) : Prop := True
def Q_Plan_keepDoers (σ : MI) (τ : ML) (σ' : MI) (τ' : ML) : Prop := τ = τ' ∧ (∀ c, c ≠ 27 → σ' c = σ c) ∧ ∀ j, j < 7 → σ' 27 j = σ 23 j
theorem v_Plan_keepDoers_0 (σ0 : MI) (τ0 : ML) (h : P_Plan_keepDoers σ0 τ0) : s_Plan_keepDoers_0 σ0 τ0 (Q_Plan_keepDoers σ0 τ0) := by
  unfold s_Plan_keepDoers_0
  intro s e
  refine ⟨rfl, fun c hc => by rw [e, st1_ne hc], fun j hj => ?_⟩
  rw [e]
  show va_cpy (σ0 23) (σ0 27) 0 0 7 j = σ0 23 j
  rw [pk_cpy_in (Nat.zero_le j) (by omega)]
  rw [Nat.sub_zero, Nat.zero_add]
theorem c_Plan_keepDoers (l : Launch) (D : va_G) (ad : Nat → Nat) (ci cl : ClassId) : ∀ (sz : Nat) (σ0 : MI) (τ0 : ML), P_Plan_keepDoers σ0 τ0 → gMv l D (xw ad ci cl) (xt ci cl) (xa ad) y_Plan_keepDoers w_Plan_keepDoers rm_Plan_keepDoers [.ref (ad 22)] sz σ0 τ0 (Q_Plan_keepDoers σ0 τ0) :=
  k_Plan_keepDoers l D ad ci cl P_Plan_keepDoers Q_Plan_keepDoers v_Plan_keepDoers_0
def cnt (f : Nat → Bool) : Nat → Nat
  | 0 => 0
  | n + 1 => cnt f n + (if f n then 1 else 0)
theorem cnt_le (f : Nat → Bool) (n : Nat) : cnt f n ≤ n := by
  induction n with
  | zero => exact Nat.le_refl 0
  | succ n ih => unfold cnt; split <;> omega
theorem cnt_congr {f g : Nat → Bool} {n : Nat} (h : ∀ j, j < n → f j = g j) : cnt f n = cnt g n := by
  induction n with
  | zero => rfl
  | succ n ih => unfold cnt; rw [ih (fun j hj => h j (by omega)), h n (by omega)]
def P_Plan_otherDoers (σ : MI) (τ : ML) (a1 : Int32) : Prop := vp_in a1 8
def Q_Plan_otherDoers (σ : MI) (τ : ML) (a1 r : Int32) (σ' : MI) (τ' : ML) : Prop := σ = σ' ∧ τ = τ' ∧ r = nI (cnt (fun j => decide (σ 23 j ≠ σ 27 j)) a1.toNatClampNeg)
def I_Plan_otherDoers_4 (σ0 : MI) (τ0 : ML) (a1 x1 x2 x3 : Int32) (σ : MI) (τ : ML) : Prop :=
  σ0 = σ ∧ τ0 = τ ∧ a1 = x1 ∧ vp_in a1 8 ∧ ∃ i, i ≤ a1.toNatClampNeg ∧ x3 = nI i ∧ x2 = nI (cnt (fun j => decide (σ0 23 j ≠ σ0 27 j)) i)
def m_Plan_otherDoers_4 (σ0 : MI) (τ0 : ML) (a1 x1 x2 x3 : Int32) (σ : MI) (τ : ML) : Nat := 100 - x3.toNatClampNeg
theorem v_Plan_otherDoers_0 (σ0 : MI) (τ0 : ML) (a1 : Int32) (h : P_Plan_otherDoers σ0 τ0 a1) : s_Plan_otherDoers_0 σ0 τ0 a1 (fun z0 z1 z2 σ9 τ9 => I_Plan_otherDoers_4 σ0 τ0 a1 z0 z1 z2 σ9 τ9) (Q_Plan_otherDoers σ0 τ0 a1) := by
  unfold s_Plan_otherDoers_0
  exact ⟨rfl, rfl, rfl, h, 0, Nat.zero_le _, rfl, rfl⟩
theorem v_Plan_otherDoers_4 (σ0 : MI) (τ0 : ML) (a1 : Int32) (x1 : Int32) (x2 : Int32) (x3 : Int32) (σ : MI) (τ : ML) (h : I_Plan_otherDoers_4 σ0 τ0 a1 x1 x2 x3 σ τ) : s_Plan_otherDoers_4 σ τ x1 x2 x3 (fun z0 z1 z2 σ9 τ9 => I_Plan_otherDoers_4 σ0 τ0 a1 z0 z1 z2 σ9 τ9 ∧ m_Plan_otherDoers_4 σ0 τ0 a1 z0 z1 z2 σ9 τ9 < m_Plan_otherDoers_4 σ0 τ0 a1 x1 x2 x3 σ τ) (Q_Plan_otherDoers σ0 τ0 a1) := by
  obtain ⟨rfl, rfl, rfl, hP, i, hi, rfl, rfl⟩ := h
  obtain ⟨n, hn, rfl⟩ := vp_in_of hP (by decide)
  have hcn : (nI n).toNatClampNeg = n := nI_clamp (by omega)
  rw [hcn] at hi
  have hci : (nI i).toNatClampNeg = i := nI_clamp (by omega)
  have hm : ∀ (u y : Int32), i < n → y = nI i + 1 → m_Plan_otherDoers_4 σ0 τ0 (nI n) (nI n) u y σ0 τ0 < m_Plan_otherDoers_4 σ0 τ0 (nI n) (nI n) (nI (cnt (fun j => decide (σ0 23 j ≠ σ0 27 j)) i)) (nI i) σ0 τ0 := by
    intro u y hl hy
    unfold m_Plan_otherDoers_4
    rw [hy, nI_1, nI_clamp (by omega), hci]
    omega
  unfold s_Plan_otherDoers_4
  rw [nI_leI (by omega) (by omega), hci]
  refine ⟨fun c => ⟨rfl, rfl, ?_⟩, fun c => ⟨vp_in_nI (by omega) (by decide), vp_in_nI (by omega) (by decide), fun c2 y hy => ⟨⟨rfl, rfl, rfl, hP, i + 1, by rw [hcn]; omega, by rw [hy, nI_1], ?_⟩, hm _ _ (by omega) hy⟩, fun c2 y24 h24 y27 h27 => ⟨⟨rfl, rfl, rfl, hP, i + 1, by rw [hcn]; omega, by rw [h27, nI_1], ?_⟩, hm _ _ (by omega) h27⟩⟩⟩
  · have e : i = n := by omega
    rw [hcn, e]
  · show nI (cnt _ i) = nI (cnt _ i + (if decide (σ0 23 i ≠ σ0 27 i) = true then 1 else 0))
    rw [if_neg (by simp [c2])]
    rfl
  · rw [h24, nI_1]
    show nI (cnt _ i + 1) = nI (cnt _ i + (if decide (σ0 23 i ≠ σ0 27 i) = true then 1 else 0))
    rw [if_pos (by simp [c2])]
theorem c_Plan_otherDoers (l : Launch) (D : va_G) (ad : Nat → Nat) (ci cl : ClassId) : ∀ (sz : Nat) (σ0 : MI) (τ0 : ML) (a1 : Int32), P_Plan_otherDoers σ0 τ0 a1 → gMi l D (xw ad ci cl) (xt ci cl) (xa ad) y_Plan_otherDoers w_Plan_otherDoers rm_Plan_otherDoers [.ref (ad 22), .int a1] sz σ0 τ0 (Q_Plan_otherDoers σ0 τ0 a1) :=
  k_Plan_otherDoers l D ad ci cl P_Plan_otherDoers Q_Plan_otherDoers I_Plan_otherDoers_4 m_Plan_otherDoers_4 v_Plan_otherDoers_0 v_Plan_otherDoers_4
