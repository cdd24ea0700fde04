noncomputable def tvm (σ : MI) (i : Nat) : Nat := smP (fun p => trs (vm σ) (od (vm σ) (nJ (vm σ))) (agm σ) p (nJ (vm σ))) i
def P_Mo_sum (σ : MI) (τ : ML) : Prop := Vd (vm σ) ∧ PLM σ
def Q_Mo_sum (σ : MI) (τ : ML) (r : Int32) (σ' : MI) (τ' : ML) : Prop := σ = σ' ∧ τ = τ' ∧ r = nI (tvm σ (nP (vm σ)))
def I_Mo_sum_4 (σ0 : MI) (τ0 : ML) (x1 x2 : Int32) (σ : MI) (τ : ML) : Prop :=
  σ0 = σ ∧ τ0 = τ ∧ P_Mo_sum σ0 τ0 ∧ ∃ i, i ≤ nP (vm σ0) ∧ x2 = nI i ∧ x1 = nI (tvm σ0 i)
def m_Mo_sum_4 (σ0 : MI) (τ0 : ML) (x1 x2 : Int32) (σ : MI) (τ : ML) : Nat := 100 - x2.toNatClampNeg
theorem v_Mo_sum_0 (σ0 : MI) (τ0 : ML) (h : P_Mo_sum σ0 τ0) : s_Mo_sum_0 P_Mo_givenTo Q_Mo_givenTo P_Mo_cost Q_Mo_cost σ0 τ0 (fun z0 z1 σ9 τ9 => I_Mo_sum_4 σ0 τ0 z0 z1 σ9 τ9) (Q_Mo_sum σ0 τ0) := by
  unfold s_Mo_sum_0
  exact ⟨rfl, rfl, h, 0, Nat.zero_le _, rfl, rfl⟩
theorem v_Mo_sum_4 (σ0 : MI) (τ0 : ML) (x1 : Int32) (x2 : Int32) (σ : MI) (τ : ML) (h : I_Mo_sum_4 σ0 τ0 x1 x2 σ τ) : s_Mo_sum_4 P_Mo_givenTo Q_Mo_givenTo P_Mo_cost Q_Mo_cost σ τ x1 x2 (fun z0 z1 σ9 τ9 => I_Mo_sum_4 σ0 τ0 z0 z1 σ9 τ9 ∧ m_Mo_sum_4 σ0 τ0 z0 z1 σ9 τ9 < m_Mo_sum_4 σ0 τ0 x1 x2 σ τ) (Q_Mo_sum σ0 τ0) := by
  obtain ⟨rfl, rfl, hP, i, hi, rfl, rfl⟩ := h
  obtain ⟨hd, hL⟩ := id hP
  have hn := hd.nJl
  have hnp := hd.nPl
  have e1 := vm_1 hd
  have hci : (nI i).toNatClampNeg = i := nI_clamp (by omega)
  have ho := od_ok (vm σ0) (nJ (vm σ0))
  unfold s_Mo_sum_4
  rw [e1, nI_leI (by omega) (by omega)]
  refine ⟨fun c => ⟨rfl, rfl, ?_⟩, fun c => ⟨⟨hd, hL.1, vp_in_nI (by omega) (by decide)⟩, fun r17 s17 t17 hq => ?_⟩⟩
  · have e : i = nP (vm σ0) := by omega
    rw [e]
  · obtain ⟨rfl, rfl, rfl⟩ := hq
    have hlt : i < nP (vm σ0) := by omega
    rw [hci]
    have hM := dp_mk_lt (fun j => av σ0 43 j == i) (nJ (vm σ0))
    have hp7 : 2 ^ nJ (vm σ0) ≤ 2 ^ 7 := Nat.pow_le_pow_right (by decide) hn.1
    refine ⟨⟨hd, vp_in_nI (by omega) (by decide), vp_in_nI hM (by omega)⟩, fun r20 s20 t20 hq y24 h24 y25 h25 => ?_⟩
    obtain ⟨rfl, rfl, hr⟩ := hq
    rw [hci, nI_clamp (by omega)] at hr
    obtain ⟨t, ht⟩ := OPT_trv hd hL.2.2.1 hlt
    rw [ht] at hr
    have et := trv_trs (a := agm σ0) hd (by omega) (fun k hk => by have := ho.1 k hk; omega) (fun k hk => by rw [gto_bit (ho.1 k hk), agm_p hd hlt]) ht
    refine ⟨⟨rfl, rfl, hP, i + 1, by omega, by rw [h25, nI_1], ?_⟩, ?_⟩
    · rw [h24, hr]
      show nI (tvm σ0 i) + nI t = nI (tvm σ0 i + _)
      rw [nI_add, et]
    · unfold m_Mo_sum_4
      rw [h25, nI_1, hci, nI_clamp (by omega)]
      omega
theorem c_Mo_sum (l : Launch) (D : va_G) (ad : Nat → Nat) (ci cl : ClassId) : ∀ (sz : Nat) (σ0 : MI) (τ0 : ML), P_Mo_sum σ0 τ0 → gMi l D (xw ad ci cl) (xt ci cl) (xa ad) y_Mo_sum w_Mo_sum rm_Mo_sum [.ref (ad 29)] sz σ0 τ0 (Q_Mo_sum σ0 τ0) :=
  k_Mo_sum l D ad ci cl P_Mo_sum Q_Mo_sum P_Mo_givenTo Q_Mo_givenTo P_Mo_cost Q_Mo_cost (c_Mo_givenTo l D ad ci cl) (c_Mo_cost l D ad ci cl) I_Mo_sum_4 m_Mo_sum_4 v_Mo_sum_0 v_Mo_sum_4
def gvn (σ : MI) : Nat := cnt (fun j => decide (av σ 43 j < nP (vm σ))) (nJ (vm σ))
def P_Mo_assign (σ : MI) (τ : ML) : Prop := Vd (vm σ)
def Q_Mo_assign (σ : MI) (τ : ML) (r : Int32) (σ' : MI) (τ' : ML) : Prop :=
  Q_Mo_search (st2 σ 29 0 0) τ σ' τ' ∧ ((gvn σ' = 0 ∧ r = -1) ∨ (gvn σ' ≠ 0 ∧ r = nI (tvm σ' (nP (vm σ')))))
theorem vm_290 {σ : MI} {v : Int32} : vm (st2 σ 29 0 v) = vm σ :=
  vm_congr (by rw [st2_at, if_neg (by decide)]) (by rw [st2_at, if_neg (by decide)]) (by rw [st2_at, if_neg (by decide)]) (by rw [st2_at, if_neg (by decide)]) (fun c hc => st2_ne (by intro h2; subst h2; revert hc; decide))
theorem srch_vm {σ σ' : MI} {τ τ' : ML} (h : Q_Mo_search σ τ σ' τ') : vm σ' = vm σ :=
  vm_congr (h.2.2.1 1 (by decide) (by decide)) (h.2.2.1 10 (by decide) (by decide)) (h.2.2.1 8 (by decide) (by decide)) (h.2.2.1 17 (by decide) (by decide)) (fun c hc => h.2.1 c (by intro h2; simp only [List.mem_cons, List.not_mem_nil, or_false] at hc h2; omega))
theorem v_Mo_assign_0 (σ0 : MI) (τ0 : ML) (h : P_Mo_assign σ0 τ0) : s_Mo_assign_0 P_Mo_search Q_Mo_search P_Mo_givenMany Q_Mo_givenMany P_Mo_sum Q_Mo_sum σ0 τ0 (Q_Mo_assign σ0 τ0) := by
  have hd : Vd (vm σ0) := h
  unfold s_Mo_assign_0
  intro s2 h2
  subst h2
  refine ⟨by unfold P_Mo_search; rw [vm_290]; exact hd, fun s6 t6 hq => ?_⟩
  have ev : vm s6 = vm σ0 := by rw [srch_vm hq, vm_290]
  have hd6 : Vd (vm s6) := by rw [ev]; exact hd
  have hL := hq.2.2.2.2.2
  refine ⟨⟨hd6, hL.1⟩, fun r10 s10 t10 hq10 => ?_⟩
  obtain ⟨rfl, rfl, rfl⟩ := hq10
  have hn := hd.nJl
  have hle := cnt_le (fun j => decide (av s6 43 j < nP (vm s6))) (nJ (vm s6))
  rw [ev] at hle
  have hz : nI (cnt (fun j => decide (av s6 43 j < nP (vm s6))) (nJ (vm s6))) = 0 ↔ gvn s6 = 0 := nI_eq (b := 0) (by rw [ev]; omega) (by decide)
  rw [hz]
  refine ⟨fun c => ⟨⟨hd6, hL⟩, fun r21 s21 t21 hq21 => ?_⟩, fun c => ⟨hq, Or.inl ⟨c, rfl⟩⟩⟩
  obtain ⟨rfl, rfl, rfl⟩ := hq21
  exact ⟨hq, Or.inr ⟨c, rfl⟩⟩
theorem c_Mo_assign (l : Launch) (D : va_G) (ad : Nat → Nat) (ci cl : ClassId) : ∀ (sz : Nat) (σ0 : MI) (τ0 : ML), P_Mo_assign σ0 τ0 → gMi l D (xw ad ci cl) (xt ci cl) (xa ad) y_Mo_assign w_Mo_assign rm_Mo_assign [.ref (ad 29)] sz σ0 τ0 (Q_Mo_assign σ0 τ0) :=
  k_Mo_assign l D ad ci cl P_Mo_assign Q_Mo_assign P_Mo_search Q_Mo_search P_Mo_givenMany Q_Mo_givenMany P_Mo_sum Q_Mo_sum (c_Mo_search l D ad ci cl) (c_Mo_givenMany l D ad ci cl) (c_Mo_sum l D ad ci cl) v_Mo_assign_0
def atw (σ : MI) (p l : Nat) (r : Int32) : Prop := (r < 0 ∧ wat (vm σ) (od (vm σ) (nJ (vm σ))) (agm σ) p l = vm σ 5 p) ∨ (¬ r < 0 ∧ vp_in r (nJ (vm σ)) ∧ wat (vm σ) (od (vm σ) (nJ (vm σ))) (agm σ) p l = vm σ 13 r.toNatClampNeg)
def P_Mo_before (σ : MI) (τ : ML) (a1 a2 : Int32) : Prop := Vd (vm σ) ∧ AV σ 43 ∧ vp_in a1 (nP (vm σ)) ∧ ∃ l, l < nJ (vm σ) ∧ a2 = nI (od (vm σ) (nJ (vm σ)) l) ∧ av σ 43 (od (vm σ) (nJ (vm σ)) l) = a1.toNatClampNeg
def Q_Mo_before (σ : MI) (τ : ML) (a1 a2 r : Int32) (σ' : MI) (τ' : ML) : Prop := σ = σ' ∧ τ = τ' ∧ ∃ l, l < nJ (vm σ) ∧ a2 = nI (od (vm σ) (nJ (vm σ)) l) ∧ atw σ a1.toNatClampNeg l r
def gto (σ : MI) (p : Nat) : Nat := dp_mk (fun j => av σ 43 j == p) (nJ (vm σ))
def I_Mo_before_14 (σ0 : MI) (τ0 : ML) (a1 a2 x1 x2 x3 x4 : Int32) (σ : MI) (τ : ML) : Prop :=
  σ0 = σ ∧ τ0 = τ ∧ a1 = x1 ∧ a2 = x2 ∧ P_Mo_before σ0 τ0 a1 a2 ∧ ∃ k l, l < nJ (vm σ0) ∧ a2 = nI (od (vm σ0) (nJ (vm σ0)) l) ∧ av σ0 43 (od (vm σ0) (nJ (vm σ0)) l) = a1.toNatClampNeg ∧ k ≤ l ∧ x4 = pj (od (vm σ0) (nJ (vm σ0))) (nJ (vm σ0)) (nxp (od (vm σ0) (nJ (vm σ0))) (gto σ0 a1.toNatClampNeg) (nJ (vm σ0)) k) ∧ atw σ0 a1.toNatClampNeg k x3
noncomputable def m_Mo_before_14 (σ0 : MI) (τ0 : ML) (a1 a2 x1 x2 x3 x4 : Int32) (σ : MI) (τ : ML) : Nat := mx (od (vm σ0) (nJ (vm σ0))) (nJ (vm σ0)) x4
theorem gto_lt {σ : MI} (hd : Vd (vm σ)) (p : Nat) : gto σ p < 128 := by
  have hn := hd.nJl
  have h1 := dp_mk_lt (fun j => av σ 43 j == p) (nJ (vm σ))
  have h2 : 2 ^ nJ (vm σ) ≤ 2 ^ 7 := Nat.pow_le_pow_right (by decide) hn.1
  unfold gto
  omega
/-- from place k on to the next of p's -/
theorem gto_nx {σ : MI} (hd : Vd (vm σ)) {p k : Nat} (hp : p < nP (vm σ)) (hk : k ≤ nJ (vm σ)) :
    k ≤ nxp (od (vm σ) (nJ (vm σ))) (gto σ p) (nJ (vm σ)) k ∧ nxp (od (vm σ) (nJ (vm σ))) (gto σ p) (nJ (vm σ)) k ≤ nJ (vm σ) ∧
    (∀ i, k ≤ i → i < nxp (od (vm σ) (nJ (vm σ))) (gto σ p) (nJ (vm σ)) k → agm σ (od (vm σ) (nJ (vm σ)) i) ≠ p) ∧ (nxp (od (vm σ) (nJ (vm σ))) (gto σ p) (nJ (vm σ)) k < nJ (vm σ) → agm σ (od (vm σ) (nJ (vm σ)) (nxp (od (vm σ) (nJ (vm σ))) (gto σ p) (nJ (vm σ)) k)) = p) := by
  have ho := od_ok (vm σ) (nJ (vm σ))
  obtain ⟨n1, n2, n3, n4⟩ := nxp_spec (o := od (vm σ) (nJ (vm σ))) (S := gto σ p) hk
  refine ⟨n1, n2, fun i h1 h2 e => ?_, fun hl => ?_⟩
  · have := n3 i h1 h2
    unfold gto at this
    rw [(gto_bit (ho.1 i (by omega))).mpr ((agm_p hd hp).mp e)] at this
    cases this
  · exact (agm_p hd hp).mpr ((gto_bit (ho.1 _ hl)).mp (n4 hl))
theorem v_Mo_before_0 (σ0 : MI) (τ0 : ML) (a1 : Int32) (a2 : Int32) (h : P_Mo_before σ0 τ0 a1 a2) : s_Mo_before_0 P_Mo_givenTo Q_Mo_givenTo P_Mo_next Q_Mo_next σ0 τ0 a1 a2 (fun z0 z1 z2 z3 σ9 τ9 => I_Mo_before_14 σ0 τ0 a1 a2 z0 z1 z2 z3 σ9 τ9) (Q_Mo_before σ0 τ0 a1 a2) := by
  unfold s_Mo_before_0
  obtain ⟨hd, hA, h1, l, hl, e2, e3⟩ := id h
  have hnp := hd.nPl
  have hn := hd.nJl
  obtain ⟨p, hp, rfl⟩ := vp_in_of h1 (by omega)
  have hcp : (nI p).toNatClampNeg = p := nI_clamp (by omega)
  have hg := gto_lt hd p
  intro y1 h1'
  refine ⟨⟨hd, hA, vp_in_nI (by omega) (by decide)⟩, fun r5 s5 t5 hq => ?_⟩
  obtain ⟨rfl, rfl, hr⟩ := hq
  rw [hcp] at hr
  have hr2 : r5 = nI (gto σ0 p) := hr
  subst hr2
  refine ⟨⟨hd, vp_in_nI hg (by decide), Or.inl rfl⟩, fun r9 s9 t9 hq => ?_⟩
  obtain ⟨rfl, rfl, hq, -⟩ := hq
  rw [nI_clamp (by omega)] at hq
  exact ⟨rfl, rfl, rfl, rfl, h, 0, l, hl, e2, e3, Nat.zero_le _, by rw [hcp]; exact hq rfl, Or.inl ⟨by rw [h1']; decide, rfl⟩⟩
theorem v_Mo_before_14 (σ0 : MI) (τ0 : ML) (a1 : Int32) (a2 : Int32) (x1 : Int32) (x2 : Int32) (x3 : Int32) (x4 : Int32) (σ : MI) (τ : ML) (h : I_Mo_before_14 σ0 τ0 a1 a2 x1 x2 x3 x4 σ τ) : s_Mo_before_14 P_Mo_givenTo Q_Mo_givenTo P_Mo_next Q_Mo_next σ τ x1 x2 x3 x4 (fun z0 z1 z2 z3 σ9 τ9 => I_Mo_before_14 σ0 τ0 a1 a2 z0 z1 z2 z3 σ9 τ9 ∧ m_Mo_before_14 σ0 τ0 a1 a2 z0 z1 z2 z3 σ9 τ9 < m_Mo_before_14 σ0 τ0 a1 a2 x1 x2 x3 x4 σ τ) (Q_Mo_before σ0 τ0 a1 a2) := by
  obtain ⟨rfl, rfl, rfl, rfl, hP, k, l, hl, e2, e3, hkl, rfl, hat⟩ := h
  obtain ⟨hd, hA, h1, -⟩ := id hP
  have hnp := hd.nPl
  have hn := hd.nJl
  obtain ⟨p, hp, rfl⟩ := vp_in_of h1 (by omega)
  have hcp : (nI p).toNatClampNeg = p := nI_clamp (by omega)
  rw [hcp] at e3 hat
  rw [hcp]
  have ho := od_ok (vm σ0) (nJ (vm σ0))
  have hg := gto_lt hd p
  obtain ⟨n1, n2, n3, n4⟩ := gto_nx hd hp (k := k) (by omega)
  have hle : nxp (od (vm σ0) (nJ (vm σ0))) (gto σ0 p) (nJ (vm σ0)) k ≤ l := by
    rcases Nat.lt_or_ge l (nxp (od (vm σ0) (nJ (vm σ0))) (gto σ0 p) (nJ (vm σ0)) k) with z | z
    · exact absurd ((agm_p hd hp).mpr e3) (n3 l hkl z)
    · exact z
  have hn4 := n4 (by omega)
  have hwk := wat_skip (d := vm σ0) n1 n3
  generalize nxp (od (vm σ0) (nJ (vm σ0))) (gto σ0 p) (nJ (vm σ0)) k = kk at *
  have ej : pj (od (vm σ0) (nJ (vm σ0))) (nJ (vm σ0)) kk = nI (od (vm σ0) (nJ (vm σ0)) kk) := if_pos (by omega)
  have hj := ho.1 kk (by omega)
  have hjl := ho.1 l hl
  have hmk : ∀ u1 u2 u3 : Int32, m_Mo_before_14 σ0 τ0 (nI p) a2 u1 u2 u3 (pj (od (vm σ0) (nJ (vm σ0))) (nJ (vm σ0)) kk) σ0 τ0 = nJ (vm σ0) - kk := fun _ _ _ => mx_pj ho hn.1 (by omega)
  unfold s_Mo_before_14
  refine ⟨fun c => ⟨rfl, rfl, l, hl, e2, ?_⟩, fun c => ⟨⟨hd, hA, vp_in_nI (by omega) (by decide)⟩, fun r26 s26 t26 hq => ?_⟩⟩
  · rw [hcp]
    rw [ej, e2, nI_eq (by omega) (by omega)] at c
    have := ord_inj ho (by omega) hl c
    subst this
    unfold atw
    rw [hwk]
    exact hat
  · obtain ⟨rfl, rfl, hr⟩ := hq
    rw [hcp] at hr
    have hr2 : r26 = nI (gto σ0 p) := hr
    subst hr2
    have hne : kk ≠ l := fun e => c (by rw [ej, e2, e])
    rw [ej]
    rw [ej] at hmk
    refine ⟨⟨hd, vp_in_nI hg (by decide), Or.inr (vp_in_nI hj (by omega))⟩, fun r31 s31 t31 hq => ?_⟩
    obtain ⟨rfl, rfl, -, hq⟩ := hq
    rw [nI_clamp (by omega)] at hq
    have hr := hq kk (by omega) rfl
    subst hr
    obtain ⟨w1, w2, -, -⟩ := gto_nx hd hp (k := kk + 1) (by omega)
    refine ⟨⟨rfl, rfl, rfl, rfl, hP, kk + 1, l, hl, e2, by rw [hcp]; exact e3, by omega, by rw [hcp], Or.inr ⟨by rw [z_lt, zc_0, z_nI (by omega)]; omega, vp_in_nI hj (by omega), ?_⟩⟩, ?_⟩
    · rw [hcp, nI_clamp (by omega)]
      show (if agm σ0 (od (vm σ0) (nJ (vm σ0)) kk) = p then _ else _) = _
      rw [if_pos hn4]
    · rw [hmk]
      unfold m_Mo_before_14
      rw [mx_pj ho hn.1 w2]
      omega
theorem c_Mo_before (l : Launch) (D : va_G) (ad : Nat → Nat) (ci cl : ClassId) : ∀ (sz : Nat) (σ0 : MI) (τ0 : ML) (a1 : Int32) (a2 : Int32), P_Mo_before σ0 τ0 a1 a2 → gMi l D (xw ad ci cl) (xt ci cl) (xa ad) y_Mo_before w_Mo_before rm_Mo_before [.ref (ad 29), .int a1, .int a2] sz σ0 τ0 (Q_Mo_before σ0 τ0 a1 a2) :=
  k_Mo_before l D ad ci cl P_Mo_before Q_Mo_before P_Mo_givenTo Q_Mo_givenTo P_Mo_next Q_Mo_next (c_Mo_givenTo l D ad ci cl) (c_Mo_next l D ad ci cl) I_Mo_before_14 m_Mo_before_14 v_Mo_before_0 v_Mo_before_14
noncomputable def ttm (σ : MI) (l : Nat) : Int32 := if agm σ (od (vm σ) (nJ (vm σ)) l) < nP (vm σ) then nI (ttn (vm σ) (od (vm σ) (nJ (vm σ))) (agm σ) (agm σ (od (vm σ) (nJ (vm σ)) l)) l) else -1
def P_Mo_travelTo (σ : MI) (τ : ML) (a1 : Int32) : Prop := Vd (vm σ) ∧ AV σ 43 ∧ vp_in a1 (nJ (vm σ))
def Q_Mo_travelTo (σ : MI) (τ : ML) (a1 r : Int32) (σ' : MI) (τ' : ML) : Prop := σ = σ' ∧ τ = τ' ∧ ∃ l, l < nJ (vm σ) ∧ a1 = nI (od (vm σ) (nJ (vm σ)) l) ∧ r = ttm σ l
theorem vp_less {x : Int32} {n m : Nat} (h : vp_in x n) (hn : n ≤ m) : vp_in x m := by
  rw [z_in] at h ⊢; omega
theorem v_Mo_travelTo_0 (σ0 : MI) (τ0 : ML) (a1 : Int32) (h : P_Mo_travelTo σ0 τ0 a1) : s_Mo_travelTo_0 P_Mo_before Q_Mo_before σ0 τ0 a1 (Q_Mo_travelTo σ0 τ0 a1) := by
  obtain ⟨hd, hA, h1⟩ := id h
  have hnp := hd.nPl
  have hn := hd.nJl
  have ho := od_ok (vm σ0) (nJ (vm σ0))
  obtain ⟨j, hj, rfl⟩ := vp_in_of h1 (by omega)
  obtain ⟨l, hl, rfl⟩ := ho.2.2 j hj
  have hcj : (nI (od (vm σ0) (nJ (vm σ0)) l)).toNatClampNeg = od (vm σ0) (nJ (vm σ0)) l := nI_clamp (by omega)
  obtain ⟨a1, a2⟩ := hA _ hj
  have e1 := vm_1 hd
  have hj7 : vp_in (nI (od (vm σ0) (nJ (vm σ0)) l)) 7 := vp_in_nI (by omega) (by decide)
  unfold s_Mo_travelTo_0
  refine ⟨hj7, fun y6 h6 => ?_⟩
  rw [hcj, a1] at h6
  subst h6
  rw [e1, nI_eq (by omega) (by omega)]
  refine ⟨fun c => ⟨⟨hd, hA, vp_in_nI (by omega) (by omega), l, hl, rfl, by rw [nI_clamp (by omega)]⟩, fun r20 s20 t20 hq => ?_⟩, fun c => ⟨rfl, rfl, l, hl, rfl, ?_⟩⟩
  · obtain ⟨rfl, rfl, l2, hl2, e2, hat⟩ := hq
    have hp : av σ0 43 (od (vm σ0) (nJ (vm σ0)) l) < nP (vm σ0) := by omega
    have hj2 := ho.1 l2 hl2
    rw [nI_eq (by omega) (by omega)] at e2
    have := ord_inj ho hl hl2 e2
    subst this
    rw [nI_clamp (by omega)] at hat
    rw [hcj, nI_clamp (by omega)]
    have hag := (agm_p hd hp).mpr (rfl : av σ0 43 (od (vm σ0) (nJ (vm σ0)) l) = _)
    have hw := wat_rng hd (a := agm σ0) (p := av σ0 43 (od (vm σ0) (nJ (vm σ0)) l)) (o := od (vm σ0) (nJ (vm σ0))) (n := nJ (vm σ0)) (by omega) (fun k hk => by have := ho.1 k hk; omega) l (by omega)
    have hjob := hd.job (j := od (vm σ0) (nJ (vm σ0)) l) (by omega)
    have hway := hd.way (k := (wat (vm σ0) (od (vm σ0) (nJ (vm σ0))) (agm σ0) (av σ0 43 (od (vm σ0) (nJ (vm σ0)) l)) l * 5 + vm σ0 13 (od (vm σ0) (nJ (vm σ0)) l)).toNat) (by omega)
    have hfin : ∀ x : Int32, x.toInt = wat (vm σ0) (od (vm σ0) (nJ (vm σ0))) (agm σ0) (av σ0 43 (od (vm σ0) (nJ (vm σ0)) l)) l → vp_in (5 * x + σ0 41 (od (vm σ0) (nJ (vm σ0)) l)) 25 ∧ Q_Mo_travelTo σ0 τ0 (nI (od (vm σ0) (nJ (vm σ0)) l)) (σ0 42 (5 * x + σ0 41 (od (vm σ0) (nJ (vm σ0)) l)).toNatClampNeg) σ0 τ0 := by
      intro x hx
      have e13 : vm σ0 13 (od (vm σ0) (nJ (vm σ0)) l) = (σ0 41 (od (vm σ0) (nJ (vm σ0)) l)).toInt := rfl
      rw [e13] at hjob hway
      rw [← hx] at hw hway
      have h5 : (5 * x).toInt = 5 * x.toInt := by rw [z_mul (by rw [zc_5]; omega) (by rw [zc_5]; omega), zc_5]
      have hix : (5 * x + σ0 41 (od (vm σ0) (nJ (vm σ0)) l)).toInt = x.toInt * 5 + (σ0 41 (od (vm σ0) (nJ (vm σ0)) l)).toInt := by rw [z_add (by omega) (by omega), h5]; omega
      refine ⟨by rw [z_in, hix]; omega, rfl, rfl, l, hl, rfl, ?_⟩
      unfold ttm
      rw [hag, if_pos hp]
      unfold ttn
      rw [← hx, e13, z_cl, hix]
      exact z_of hway.1
    rcases hat with ⟨z1, z2⟩ | ⟨z1, z2, z3⟩
    · rw [z_lt, zc_0] at z1
      rw [z_le, zc_0]
      have := hfin _ z2.symm
      exact ⟨fun c => absurd c (by omega), fun _ => ⟨vp_in_nI (by omega) (by decide), hj7, this⟩⟩
    · rw [z_lt, zc_0] at z1
      rw [z_le, zc_0]
      have := hfin _ z3.symm
      exact ⟨fun _ => ⟨vp_less z2 (by omega), hj7, this⟩, fun c => absurd (by omega) c⟩
  · unfold ttm
    rw [if_neg (by rw [agm_lt hd]; omega)]
theorem c_Mo_travelTo (l : Launch) (D : va_G) (ad : Nat → Nat) (ci cl : ClassId) : ∀ (sz : Nat) (σ0 : MI) (τ0 : ML) (a1 : Int32), P_Mo_travelTo σ0 τ0 a1 → gMi l D (xw ad ci cl) (xt ci cl) (xa ad) y_Mo_travelTo w_Mo_travelTo rm_Mo_travelTo [.ref (ad 29), .int a1] sz σ0 τ0 (Q_Mo_travelTo σ0 τ0 a1) :=
  k_Mo_travelTo l D ad ci cl P_Mo_travelTo Q_Mo_travelTo P_Mo_before Q_Mo_before (c_Mo_before l D ad ci cl) v_Mo_travelTo_0
