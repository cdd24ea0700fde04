def P_Planner_costOwn (σ : MI) (τ : ML) (a4 : Int32) : Prop := Vd (vx σ) ∧ Orx σ ∧ vp_in a4 4
def ovl : Option Nat → Int64
  | none => -1
  | some x => lN x
noncomputable def owc (d : Dt) (p T : Nat) : Option Nat := (trv d (od d (nJ d)) p T (nJ d)).map (fun t => t * 2097152 + dgs p T (nJ d))
def Q_Planner_costOwn (σ : MI) (τ : ML) (a4 : Int32) (σ' : MI) (τ' : ML) : Prop := σ = σ' ∧ (∀ c, c ≠ 21 → τ' c = τ c) ∧ ∀ T, T < 2 ^ nJ (vx σ) → τ' 21 T = ovl (owc (vx σ) a4.toNatClampNeg T)
def I_Planner_costOwn_11 (σ0 : MI) (τ0 : ML) (a4 x4 x5 x6 : Int32) (σ : MI) (τ : ML) : Prop :=
  σ0 = σ ∧ a4 = x4 ∧ P_Planner_costOwn σ0 τ0 a4 ∧ x5 = nI (2 ^ nJ (vx σ0)) ∧ (∀ c, c ≠ 21 → τ c = τ0 c) ∧ ∃ i, i ≤ 2 ^ nJ (vx σ0) ∧ x6 = nI i ∧ ∀ T, T < i → τ 21 T = ovl (owc (vx σ0) a4.toNatClampNeg T)
def m_Planner_costOwn_11 (σ0 : MI) (τ0 : ML) (a4 x4 x5 x6 : Int32) (σ : MI) (τ : ML) : Nat := 1000 - x6.toNatClampNeg
theorem v_Planner_costOwn_0 (σ0 : MI) (τ0 : ML) (a4 : Int32) (h : P_Planner_costOwn σ0 τ0 a4) : s_Planner_costOwn_0 P_Planner_travelOf Q_Planner_travelOf P_Planner_digits Q_Planner_digits σ0 τ0 a4 (fun z0 z1 z2 σ9 τ9 => I_Planner_costOwn_11 σ0 τ0 a4 z0 z1 z2 σ9 τ9) (Q_Planner_costOwn σ0 τ0 a4) := by
  unfold s_Planner_costOwn_0
  intro y hy
  have hn := h.1.nJl
  refine ⟨rfl, rfl, h, ?_, fun _ _ => rfl, 0, Nat.zero_le _, rfl, fun S hS => absurd hS (Nat.not_lt_zero S)⟩
  rw [hy, vx_8 h.1, zb_one (by omega)]
theorem v_Planner_costOwn_11 (σ0 : MI) (τ0 : ML) (a4 : Int32) (x4 : Int32) (x5 : Int32) (x6 : Int32) (σ : MI) (τ : ML) (h : I_Planner_costOwn_11 σ0 τ0 a4 x4 x5 x6 σ τ) : s_Planner_costOwn_11 P_Planner_travelOf Q_Planner_travelOf P_Planner_digits Q_Planner_digits σ τ x4 x5 x6 (fun z0 z1 z2 σ9 τ9 => I_Planner_costOwn_11 σ0 τ0 a4 z0 z1 z2 σ9 τ9 ∧ m_Planner_costOwn_11 σ0 τ0 a4 z0 z1 z2 σ9 τ9 < m_Planner_costOwn_11 σ0 τ0 a4 x4 x5 x6 σ τ) (Q_Planner_costOwn σ0 τ0 a4) := by
  obtain ⟨rfl, rfl, hP, rfl, hfr, i, hi, rfl, hall⟩ := h
  obtain ⟨hd, ho, h4⟩ := id hP
  have hn := hd.nJl
  have hp := jo_pow hn.1
  have e8 := vx_8 hd
  obtain ⟨p, hp4, rfl⟩ := vp_in_of h4 (by decide)
  have hcp : (nI p).toNatClampNeg = p := nI_clamp (by omega)
  rw [hcp] at hall
  unfold s_Planner_costOwn_11
  rw [nI_leI (by omega) (by omega)]
  refine ⟨fun c => ⟨rfl, hfr, fun S hS => ?_⟩, fun c => ⟨⟨hd, ho, h4, vp_in_nI (by omega) (by decide)⟩, fun r s t hq => ?_⟩⟩
  · rw [hcp]
    exact hall S (by omega)
  · obtain ⟨rfl, rfl, hr⟩ := hq
    have hci : (nI i).toNatClampNeg = i := nI_clamp (by omega)
    have hi128 : vp_in (nI i) 128 := vp_in_nI (by omega) (by decide)
    rw [hcp, hci] at hr
    have hm : ∀ (t9 : ML) (y : Int32), y = nI i + 1 → m_Planner_costOwn_11 σ0 τ0 (nI p) (nI p) (nI (2 ^ nJ (vx σ0))) y σ0 t9 < m_Planner_costOwn_11 σ0 τ0 (nI p) (nI p) (nI (2 ^ nJ (vx σ0))) (nI i) σ0 τ := by
      intro t9 y hy
      unfold m_Planner_costOwn_11
      rw [hy, nI_1, nI_clamp (by omega), hci]
      omega
    have hrg : ∀ t, trv (vx σ0) (od (vx σ0) (nJ (vx σ0))) p i (nJ (vx σ0)) = some t → t ≤ 2100 := fun t ht => trv_rng hd hp4 hn.1 (fun k hk => Nat.lt_of_lt_of_le (od_lt7 hd hk) hn.1) ht
    have hend : ∀ (t9 : ML) (y : Int32), t9 = sl2 τ 21 i (ovl (owc (vx σ0) p i)) → y = nI i + 1 → I_Planner_costOwn_11 σ0 τ0 (nI p) (nI p) (nI (2 ^ nJ (vx σ0))) y σ0 t9 := by
      intro t9 y ht hy
      refine ⟨rfl, rfl, hP, rfl, fun c hc => by rw [ht, sl2_ne hc]; exact hfr c hc, i + 1, by omega, by rw [hy, nI_1], fun S hS => ?_⟩
      rw [ht, sl2_at, hcp]
      by_cases e : S = i
      · subst e
        rw [if_pos ⟨rfl, rfl⟩]
      · rw [if_neg (fun z => e z.2)]
        exact hall S (by omega)
    refine ⟨fun c2 => ⟨⟨hi128, by rw [e8]; exact vp_in_nI (by omega) (by decide), ?_⟩, fun r70 s70 t70 hq => ?_⟩, fun c2 => ⟨hi128, fun t46 h46 y hy => ⟨hend t46 y ?_ hy, hm _ _ hy⟩⟩⟩
    · exact vp_in_nI (by omega) (by decide)
    · obtain ⟨rfl, rfl, rfl⟩ := hq
      refine ⟨hi128, fun t74 h74 y hy => ⟨hend t74 y ?_ hy, hm _ _ hy⟩⟩
      rw [h74, hci, e8, hcp, nI_clamp (n := nJ (vx σ0)) (by omega)]
      congr 1
      unfold owc
      cases hx : trv (vx σ0) (od (vx σ0) (nJ (vx σ0))) p i (nJ (vx σ0)) with
      | none => rw [hx] at hr; exact absurd hr c2
      | some t =>
        have := hrg t hx
        rw [hx] at hr
        rw [hr]
        show (nI t).toInt64 <<< _ + lN _ = lN _
        rw [nI_l (by omega)]
        have := wb_shl t (k := 21) (by decide)
        rw [show (Int32.toInt64 21 &&& 63) = ((nI 21).toInt64 &&& 63) from rfl, this, lN_add]
    · rw [h46, hci]
      congr 1
      unfold owc
      have hz := (ov_m1 (fun t ht => by have := hrg t ht; omega)).mp (hr.symm.trans c2)
      rw [hz]
      rfl
theorem c_Planner_costOwn (l : Launch) (D : va_G) (ad : Nat → Nat) (ci cl : ClassId) : ∀ (sz : Nat) (σ0 : MI) (τ0 : ML) (a4 : Int32), P_Planner_costOwn σ0 τ0 a4 → gMv l D (xw ad ci cl) (xt ci cl) (xa ad) y_Planner_costOwn w_Planner_costOwn rm_Planner_costOwn [.ref (ad 19), .ref (ad 1), .ref (ad 8), .ref (ad 17), .int a4] sz σ0 τ0 (Q_Planner_costOwn σ0 τ0 a4) :=
  k_Planner_costOwn l D ad ci cl P_Planner_costOwn Q_Planner_costOwn P_Planner_travelOf Q_Planner_travelOf P_Planner_digits Q_Planner_digits (c_Planner_travelOf l D ad ci cl) (c_Planner_digits l D ad ci cl) I_Planner_costOwn_11 m_Planner_costOwn_11 v_Planner_costOwn_0 v_Planner_costOwn_11
def P_Jobs_putInOrder (σ : MI) (τ : ML) : Prop := Vd (vx σ)
def Q_Jobs_putInOrder (σ : MI) (τ : ML) (σ' : MI) (τ' : ML) : Prop := (∀ c, c ≠ 14 → σ' c = σ c) ∧ τ = τ' ∧ Orx σ'
def I_Jobs_putInOrder_2 (σ0 : MI) (τ0 : ML) (x1 : Int32) (σ : MI) (τ : ML) : Prop :=
  τ0 = τ ∧ Vd (vx σ0) ∧ (∀ c, c ≠ 14 → σ c = σ0 c) ∧ ∃ i o, i ≤ nJ (vx σ0) ∧ x1 = nI i ∧ IsOrd (vx σ0) i o ∧ ∀ k, k < i → σ 14 k = nI (o k)
def I_Jobs_putInOrder_12 (σ0 : MI) (τ0 : ML) (x1 x2 : Int32) (σ : MI) (τ : ML) : Prop :=
  τ0 = τ ∧ Vd (vx σ0) ∧ (∀ c, c ≠ 14 → σ c = σ0 c) ∧ ∃ i k o, i < nJ (vx σ0) ∧ k ≤ i ∧ x1 = nI i ∧ x2 = nI k ∧ IsOrd (vx σ0) i o ∧ (∀ l, l < k → σ 14 l = nI (o l)) ∧ (∀ l, k < l → l ≤ i → σ 14 l = nI (o (l - 1))) ∧ ∀ l, k ≤ l → l < i → vx σ0 11 i < vx σ0 11 (o l)
def m_Jobs_putInOrder_2 (σ0 : MI) (τ0 : ML) (x1 : Int32) (σ : MI) (τ : ML) : Nat := (100 - x1.toNatClampNeg) * 100
def m_Jobs_putInOrder_12 (σ0 : MI) (τ0 : ML) (x1 x2 : Int32) (σ : MI) (τ : ML) : Nat := (99 - x1.toNatClampNeg) * 100 + x2.toNatClampNeg + 1
theorem vx_14 {σ σ0 : MI} (h : ∀ c, c ≠ 14 → σ c = σ0 c) : vx σ = vx σ0 :=
  vx_congr (by rw [h 1 (by decide)]) (by rw [h 8 (by decide)]) (by rw [h 15 (by decide)]) (by rw [h 17 (by decide)]) (fun c hc => h c (by rintro rfl; exact absurd hc (by decide)))
theorem ord_ins {d : Dt} {i k : Nat} {o : Nat → Nat} (h : IsOrd d i o) (hk : k ≤ i) (hlo : k = 0 ∨ d 11 (o (k - 1)) ≤ d 11 i) (hhi : ∀ l, k ≤ l → l < i → d 11 i < d 11 (o l)) : IsOrd d (i + 1) (fun l => if l < k then o l else if l = k then i else o (l - 1)) := by
  have low : ∀ l, l < k → d 11 (o l) ≤ d 11 i := by
    intro l hl
    rcases hlo with z | z
    · omega
    · by_cases e : l = k - 1
      · rw [e]; exact z
      · have := h.2.1 l (k - 1) (by omega) (by omega)
        unfold klt at this
        omega
  refine ⟨fun l hl => ?_, fun a b hab hb => ?_, fun j hj => ?_⟩
  · show (if l < k then o l else if l = k then i else o (l - 1)) < i + 1
    split
    · have := h.1 l (by omega); omega
    · split
      · omega
      · have := h.1 (l - 1) (by omega); omega
  · show klt d (if a < k then o a else if a = k then i else o (a - 1)) (if b < k then o b else if b = k then i else o (b - 1))
    by_cases h1 : b < k
    · rw [if_pos (by omega), if_pos h1]
      exact h.2.1 a b hab (by omega)
    · by_cases h2 : b = k
      · rw [if_pos (by omega), if_neg h1, if_pos h2]
        have h3 := low a (by omega)
        have h4 := h.1 a (by omega)
        unfold klt
        omega
      · rw [if_neg h1, if_neg h2]
        by_cases h3 : a < k
        · rw [if_pos h3]
          exact h.2.1 a (b - 1) (by omega) (by omega)
        · rw [if_neg h3]
          by_cases h4 : a = k
          · rw [if_pos h4]
            exact Or.inl (hhi (b - 1) (by omega) (by omega))
          · rw [if_neg h4]
            exact h.2.1 (a - 1) (b - 1) (by omega) (by omega)
  · by_cases e : j = i
    · refine ⟨k, by omega, ?_⟩
      show (if k < k then o k else if k = k then i else o (k - 1)) = j
      rw [if_neg (Nat.lt_irrefl k), if_pos rfl, e]
    · obtain ⟨l, hl, hol⟩ := h.2.2 j (by omega)
      by_cases h1 : l < k
      · refine ⟨l, by omega, ?_⟩
        show (if l < k then o l else if l = k then i else o (l - 1)) = j
        rw [if_pos h1, hol]
      · refine ⟨l + 1, by omega, ?_⟩
        show (if l + 1 < k then o (l + 1) else if l + 1 = k then i else o (l + 1 - 1)) = j
        rw [if_neg (by omega), if_neg (by omega), Nat.add_sub_cancel, hol]
theorem v_Jobs_putInOrder_0 (σ0 : MI) (τ0 : ML) (h : P_Jobs_putInOrder σ0 τ0) : s_Jobs_putInOrder_0 σ0 τ0 (fun z0 σ9 τ9 => I_Jobs_putInOrder_2 σ0 τ0 z0 σ9 τ9) (fun z0 z1 σ9 τ9 => I_Jobs_putInOrder_12 σ0 τ0 z0 z1 σ9 τ9) (Q_Jobs_putInOrder σ0 τ0) := by
  unfold s_Jobs_putInOrder_0
  exact ⟨rfl, h, fun _ _ => rfl, 0, fun k => k, Nat.zero_le _, rfl, ⟨fun k hk => absurd hk (Nat.not_lt_zero k), fun k l hk hl => absurd hl (Nat.not_lt_zero l), fun j hj => absurd hj (Nat.not_lt_zero j)⟩, fun k hk => absurd hk (Nat.not_lt_zero k)⟩
theorem v_Jobs_putInOrder_2 (σ0 : MI) (τ0 : ML) (x1 : Int32) (σ : MI) (τ : ML) (h : I_Jobs_putInOrder_2 σ0 τ0 x1 σ τ) : s_Jobs_putInOrder_2 σ τ x1 (fun z0 σ9 τ9 => I_Jobs_putInOrder_2 σ0 τ0 z0 σ9 τ9 ∧ m_Jobs_putInOrder_2 σ0 τ0 z0 σ9 τ9 < m_Jobs_putInOrder_2 σ0 τ0 x1 σ τ) (fun z0 z1 σ9 τ9 => I_Jobs_putInOrder_12 σ0 τ0 z0 z1 σ9 τ9 ∧ m_Jobs_putInOrder_12 σ0 τ0 z0 z1 σ9 τ9 < m_Jobs_putInOrder_2 σ0 τ0 x1 σ τ) (Q_Jobs_putInOrder σ0 τ0) := by
  obtain ⟨rfl, hd, hfr, i, o, hi, rfl, ho, hall⟩ := h
  have hn := hd.nJl
  have e8 := vx_8 hd
  unfold s_Jobs_putInOrder_2
  rw [hfr 8 (by decide), e8, nI_leI (by omega) (by omega)]
  refine ⟨fun c => ⟨hfr, rfl, ?_⟩, fun c => ⟨⟨rfl, hd, hfr, i, i, o, by omega, Nat.le_refl i, rfl, rfl, ho, hall, fun l h1 h2 => by omega, fun l h1 h2 => by omega⟩, ?_⟩⟩
  · have e : i = nJ (vx σ0) := by omega
    unfold Orx
    rw [vx_14 hfr]
    intro k hk
    rw [hall k (by omega)]
    subst e
    rw [od_eq ho k hk]
  · unfold m_Jobs_putInOrder_2 m_Jobs_putInOrder_12
    rw [nI_clamp (by omega)]
    omega
theorem v_Jobs_putInOrder_12 (σ0 : MI) (τ0 : ML) (x1 : Int32) (x2 : Int32) (σ : MI) (τ : ML) (h : I_Jobs_putInOrder_12 σ0 τ0 x1 x2 σ τ) : s_Jobs_putInOrder_12 σ τ x1 x2 (fun z0 σ9 τ9 => I_Jobs_putInOrder_2 σ0 τ0 z0 σ9 τ9 ∧ m_Jobs_putInOrder_2 σ0 τ0 z0 σ9 τ9 < m_Jobs_putInOrder_12 σ0 τ0 x1 x2 σ τ) (fun z0 z1 σ9 τ9 => I_Jobs_putInOrder_12 σ0 τ0 z0 z1 σ9 τ9 ∧ m_Jobs_putInOrder_12 σ0 τ0 z0 z1 σ9 τ9 < m_Jobs_putInOrder_12 σ0 τ0 x1 x2 σ τ) (Q_Jobs_putInOrder σ0 τ0) := by
  obtain ⟨rfl, hd, hfr, i, k, o, hi, hk, rfl, rfl, ho, hlo, hhi, hgt⟩ := h
  have hn := hd.nJl
  have hci : (nI i).toNatClampNeg = i := nI_clamp (by omega)
  have hck : (nI k).toNatClampNeg = k := nI_clamp (by omega)
  have hik : vp_in (nI k) 7 := vp_in_nI (by omega) (by decide)
  have h58 : (k = 0 ∨ vx σ0 11 (o (k - 1)) ≤ vx σ0 11 i) → s_Jobs_putInOrder_58 σ τ0 (nI i) (nI k) (fun z0 σ9 τ9 => I_Jobs_putInOrder_2 σ0 τ0 z0 σ9 τ9 ∧ m_Jobs_putInOrder_2 σ0 τ0 z0 σ9 τ9 < m_Jobs_putInOrder_12 σ0 τ0 (nI i) (nI k) σ τ0) (fun z0 z1 σ9 τ9 => I_Jobs_putInOrder_12 σ0 τ0 z0 z1 σ9 τ9 ∧ m_Jobs_putInOrder_12 σ0 τ0 z0 z1 σ9 τ9 < m_Jobs_putInOrder_12 σ0 τ0 (nI i) (nI k) σ τ0) (Q_Jobs_putInOrder σ0 τ0) := by
    intro hz
    unfold s_Jobs_putInOrder_58
    refine ⟨hik, fun s64 h64 y hy => ⟨⟨rfl, hd, fun c hc => by rw [h64, st2_ne hc]; exact hfr c hc, i + 1, _, by omega, by rw [hy, nI_1], ord_ins ho hk hz hgt, fun l hl => ?_⟩, ?_⟩⟩
    · rw [h64, hck, st2_at]
      by_cases e : l = k
      · subst e
        simp
      · rw [if_neg (fun z => e z.2)]
        by_cases e2 : l < k
        · rw [if_pos e2]; exact hlo l e2
        · rw [if_neg e2, if_neg e]; exact hhi l (by omega) (by omega)
    · unfold m_Jobs_putInOrder_2 m_Jobs_putInOrder_12
      rw [hy, nI_1, nI_clamp (by omega), hci]
      omega
  unfold s_Jobs_putInOrder_12
  refine ⟨fun c => h58 (Or.inl ?_), fun c => ?_⟩
  · rw [z_le, z_nI (by omega), zc_0] at c
    omega
  · rw [z_le, z_nI (by omega), zc_0] at c
    have hk1 : nI k - 1 = nI (k - 1) := pk_sub (a := k) (b := 1) (by omega)
    have hck1 : (nI (k - 1)).toNatClampNeg = k - 1 := nI_clamp (by omega)
    have hol := ho.1 (k - 1) (by omega)
    have hco : (nI (o (k - 1))).toNatClampNeg = o (k - 1) := nI_clamp (by omega)
    rw [hk1, hck1, hlo (k - 1) (by omega), hco, hci, hfr 11 (by decide), z_le]
    refine ⟨vp_in_nI (by omega) (by decide), vp_in_nI (by omega) (by decide), vp_in_nI (by omega) (by decide), fun c2 => h58 (Or.inr c2), fun c2 => ⟨vp_in_nI (by omega) (by decide), hik, fun s51 h51 y hy => ?_⟩⟩
    have hy2 : y = nI (k - 1) := by
      rw [hy]
      have : nI (k - 1 + 1) + (-1) = nI (k - 1) := pk_m1 (k - 1)
      rwa [Nat.sub_add_cancel (by omega)] at this
    refine ⟨⟨rfl, hd, fun c hc => by rw [h51, st2_ne hc]; exact hfr c hc, i, k - 1, o, hi, by omega, rfl, hy2, ho, fun l hl => ?_, fun l h1 h2 => ?_, fun l h1 h2 => ?_⟩, ?_⟩
    · rw [h51, hck, st2_at, if_neg (by omega)]
      exact hlo l (by omega)
    · rw [h51, hck, st2_at]
      by_cases e : l = k
      · subst e
        rw [if_pos ⟨rfl, rfl⟩]
      · rw [if_neg (fun z => e z.2)]
        exact hhi l (by omega) h2
    · by_cases e : l = k - 1
      · subst e
        have hc3 : ¬ vx σ0 11 (o (k - 1)) ≤ vx σ0 11 i := c2
        omega
      · exact hgt l (by omega) h2
    · unfold m_Jobs_putInOrder_12
      rw [hy2, hck1, hck]
      omega
theorem c_Jobs_putInOrder (l : Launch) (D : va_G) (ad : Nat → Nat) (ci cl : ClassId) : ∀ (sz : Nat) (σ0 : MI) (τ0 : ML), P_Jobs_putInOrder σ0 τ0 → gMv l D (xw ad ci cl) (xt ci cl) (xa ad) y_Jobs_putInOrder w_Jobs_putInOrder rm_Jobs_putInOrder [.ref (ad 8)] sz σ0 τ0 (Q_Jobs_putInOrder σ0 τ0) :=
  k_Jobs_putInOrder l D ad ci cl P_Jobs_putInOrder Q_Jobs_putInOrder I_Jobs_putInOrder_2 m_Jobs_putInOrder_2 I_Jobs_putInOrder_12 m_Jobs_putInOrder_12 v_Jobs_putInOrder_0 v_Jobs_putInOrder_2 v_Jobs_putInOrder_12
