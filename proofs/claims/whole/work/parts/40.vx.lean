def P_Mo_day (σ : MI) (τ : ML) (a1 a2 : Int32) : Prop := Vd (vm σ) ∧ (σ 29 18 ≠ 0 → PLM σ)
def inP (n : Int) (a1 : Int32) : Prop := 0 ≤ a1.toInt ∧ a1.toInt < n
def Q_Mo_day (σ : MI) (τ : ML) (a1 a2 r : Int32) (σ' : MI) (τ' : ML) : Prop :=
  τ = τ' ∧ ((¬ inP (σ 29 1).toInt a1 ∧ σ' = st2 σ 29 0 1) ∨ (inP (σ 29 1).toInt a1 ∧ σ 29 18 = 0 ∧ σ' = st2 σ 29 0 2) ∨ (inP (σ 29 1).toInt a1 ∧ σ 29 18 ≠ 0 ∧ DayA (od (vm σ) (nJ (vm σ))) (agm σ) (nJ (vm σ)) a1.toNatClampNeg a2 r ∧ σ' = st2 σ 29 0 0))
def I_Mo_day_59 (σ0 : MI) (τ0 : ML) (a1 a2 x1 x3 x4 : Int32) (σ : MI) (τ : ML) : Prop :=
  τ0 = τ ∧ a1 = x1 ∧ Vd (vm σ0) ∧ PLM σ0 ∧ σ0 29 18 ≠ 0 ∧ inP (σ0 29 1).toInt a1 ∧ σ = st2 σ0 29 0 0 ∧ ((a2.toInt < 0 ∧ x4 = -1) ∨ ∃ k, k ≤ nJ (vm σ0) ∧ 0 ≤ x3.toInt ∧ (cnp (od (vm σ0) (nJ (vm σ0))) (agm σ0) a1.toNatClampNeg k : Int) + x3.toInt = a2.toInt ∧ x4 = pj (od (vm σ0) (nJ (vm σ0))) (nJ (vm σ0)) (nxp (od (vm σ0) (nJ (vm σ0))) (gto σ0 a1.toNatClampNeg) (nJ (vm σ0)) k))
noncomputable def m_Mo_day_59 (σ0 : MI) (τ0 : ML) (a1 a2 x1 x3 x4 : Int32) (σ : MI) (τ : ML) : Nat := mx (od (vm σ0) (nJ (vm σ0))) (nJ (vm σ0)) x4
theorem gto_290 {σ : MI} {v : Int32} {p : Nat} : gto (st2 σ 29 0 v) p = gto σ p := by
  unfold gto av; rw [vm_290, st2_ne (by decide)]
theorem v_Mo_day_0 (σ0 : MI) (τ0 : ML) (a1 : Int32) (a2 : Int32) (h : P_Mo_day σ0 τ0 a1 a2) : s_Mo_day_0 P_Mo_isPerson Q_Mo_isPerson P_Mo_givenTo Q_Mo_givenTo P_Mo_next Q_Mo_next σ0 τ0 a1 a2 (fun z0 z1 z2 σ9 τ9 => I_Mo_day_59 σ0 τ0 a1 a2 z0 z1 z2 σ9 τ9) (Q_Mo_day σ0 τ0 a1 a2) := by
  obtain ⟨hd, hL⟩ := id h
  have hnp := hd.nPl
  have hn := hd.nJl
  unfold s_Mo_day_0
  have href : ∀ (v : Int32) (s25 : MI), ¬ v ≤ 0 → s25 = st2 σ0 29 0 v → Q_Mo_day σ0 τ0 a1 a2 0 s25 τ0 → s_Mo_day_28 P_Mo_isPerson Q_Mo_isPerson P_Mo_givenTo Q_Mo_givenTo P_Mo_next Q_Mo_next s25 τ0 a1 a2 (fun z0 z1 z2 σ9 τ9 => I_Mo_day_59 σ0 τ0 a1 a2 z0 z1 z2 σ9 τ9) (Q_Mo_day σ0 τ0 a1 a2) := by
    intro v s25 hv hs hQ
    have e0 : s25 29 0 = v := by rw [hs, st2_at, if_pos ⟨rfl, rfl⟩]
    unfold s_Mo_day_28
    rw [e0]
    exact ⟨fun c => absurd c hv, fun _ => hQ⟩
  refine ⟨trivial, fun r3 s3 t3 hq => ?_⟩
  obtain ⟨rfl, rfl, h3⟩ := hq
  refine ⟨fun c => ⟨fun c2 s25 h25 => href 2 s25 (by decide) h25 ⟨rfl, Or.inr (Or.inl ⟨rb_1 h3 c, c2, h25⟩)⟩, fun c2 s25 h25 => ?_⟩, fun c s25 h25 => href 1 s25 (by decide) h25 ⟨rfl, Or.inl ⟨rb_0 h3 c, h25⟩⟩⟩
  have hin : inP (σ0 29 1).toInt a1 := rb_1 h3 c
  have hPL := hL c2
  obtain ⟨p, hp, rfl⟩ : ∃ p, p < nP (vm σ0) ∧ a1 = nI p := by
    have hj := hin
    unfold inP at hj
    rw [vm_1 hd, z_nI (by omega)] at hj
    exact ⟨a1.toInt.toNat, by omega, z_of hj.1⟩
  have hcp : (nI p).toNatClampNeg = p := nI_clamp (by omega)
  subst h25
  have hPL25 : PLM (st2 σ0 29 0 0) := PLM_290 hPL
  have hd25 : Vd (vm (st2 σ0 29 0 0)) := by rw [vm_290]; exact hd
  have hg := gto_lt hd p
  unfold s_Mo_day_28
  rw [show (st2 σ0 29 0 0) 29 0 = 0 by rw [st2_at, if_pos ⟨rfl, rfl⟩]]
  refine ⟨fun _ => ⟨fun c3 => ⟨⟨hd25, hPL25.1, vp_in_nI (by omega) (by decide)⟩, fun r50 s50 t50 hq => ?_⟩, fun c3 y57 h57 => ⟨rfl, rfl, hd, hPL, c2, hin, rfl, Or.inl ⟨by rw [z_le, zc_0] at c3; omega, h57⟩⟩⟩, fun c => absurd (by decide) c⟩
  obtain ⟨rfl, rfl, hr⟩ := hq
  have hr2 : r50 = nI (gto σ0 p) := by rw [← gto_290 (v := 0), hr, hcp]; rfl
  subst hr2
  refine ⟨⟨hd25, vp_in_nI hg (by decide), Or.inl rfl⟩, fun r54 s54 t54 hq => ?_⟩
  obtain ⟨rfl, rfl, hq, -⟩ := hq
  rw [nI_clamp (by omega), vm_290] at hq
  refine ⟨rfl, rfl, hd, hPL, c2, hin, rfl, Or.inr ⟨0, Nat.zero_le _, by rw [z_le, zc_0] at c3; exact c3, ?_, by rw [hcp]; exact hq rfl⟩⟩
  show ((0 : Nat) : Int) + a2.toInt = a2.toInt
  omega
theorem v_Mo_day_59 (σ0 : MI) (τ0 : ML) (a1 : Int32) (a2 : Int32) (x1 : Int32) (x3 : Int32) (x4 : Int32) (σ : MI) (τ : ML) (h : I_Mo_day_59 σ0 τ0 a1 a2 x1 x3 x4 σ τ) : s_Mo_day_59 P_Mo_isPerson Q_Mo_isPerson P_Mo_givenTo Q_Mo_givenTo P_Mo_next Q_Mo_next σ τ x1 x3 x4 (fun z0 z1 z2 σ9 τ9 => I_Mo_day_59 σ0 τ0 a1 a2 z0 z1 z2 σ9 τ9 ∧ m_Mo_day_59 σ0 τ0 a1 a2 z0 z1 z2 σ9 τ9 < m_Mo_day_59 σ0 τ0 a1 a2 x1 x3 x4 σ τ) (Q_Mo_day σ0 τ0 a1 a2) := by
  obtain ⟨rfl, rfl, hd, hPL, hpl, hin, rfl, hk⟩ := h
  have hnp := hd.nPl
  have hn := hd.nJl
  obtain ⟨p, hp, rfl⟩ : ∃ p, p < nP (vm σ0) ∧ a1 = nI p := by
    have hj := hin
    unfold inP at hj
    rw [vm_1 hd, z_nI (by omega)] at hj
    exact ⟨a1.toInt.toNat, by omega, z_of hj.1⟩
  have hcp : (nI p).toNatClampNeg = p := nI_clamp (by omega)
  rw [hcp] at hk
  have hPL25 : PLM (st2 σ0 29 0 0) := PLM_290 hPL
  have hd25 : Vd (vm (st2 σ0 29 0 0)) := by rw [vm_290]; exact hd
  have hg := gto_lt hd p
  have ho := od_ok (vm σ0) (nJ (vm σ0))
  have hfin : ∀ r, DayA (od (vm σ0) (nJ (vm σ0))) (agm σ0) (nJ (vm σ0)) p a2 r → Q_Mo_day σ0 τ0 (nI p) a2 r (st2 σ0 29 0 0) τ0 := fun r hr => ⟨rfl, Or.inr (Or.inr ⟨hin, hpl, by rw [hcp]; exact hr, rfl⟩)⟩
  unfold s_Mo_day_59
  rcases hk with ⟨k1, rfl⟩ | ⟨k, k1, k2, k3, rfl⟩
  · refine ⟨fun _ => hfin _ (Or.inr ⟨fun l _ _ => ?_, rfl⟩), fun c => absurd (by decide) c⟩
    have : (0 : Int) ≤ cnp (od (vm σ0) (nJ (vm σ0))) (agm σ0) p l := Int.natCast_nonneg _
    omega
  · obtain ⟨n1, n2, n3, n4⟩ := gto_nx hd hp k1
    have hcs := cnp_skip n1 n3
    have hm : ∀ u1 u2 : Int32, m_Mo_day_59 σ0 τ0 (nI p) a2 u1 u2 (pj (od (vm σ0) (nJ (vm σ0))) (nJ (vm σ0)) (nxp (od (vm σ0) (nJ (vm σ0))) (gto σ0 p) (nJ (vm σ0)) k)) (st2 σ0 29 0 0) τ0 = nJ (vm σ0) - nxp (od (vm σ0) (nJ (vm σ0))) (gto σ0 p) (nJ (vm σ0)) k := fun _ _ => mx_pj ho hn.1 n2
    rw [pj_neg (fun i hi => by have := ho.1 i hi; omega)]
    generalize nxp (od (vm σ0) (nJ (vm σ0))) (gto σ0 p) (nJ (vm σ0)) k = kk at *
    refine ⟨fun c => hfin _ (Or.inr ⟨fun l hl he => ?_, ?_⟩), fun c => ?_⟩
    · rcases Nat.lt_or_ge l k with z | z
      · have := cnp_hit z he; omega
      · exact absurd he (n3 l z (by omega))
    · unfold pj; rw [if_neg (by omega)]
    · have hlt : kk < nJ (vm σ0) := by omega
      have ej : pj (od (vm σ0) (nJ (vm σ0))) (nJ (vm σ0)) kk = nI (od (vm σ0) (nJ (vm σ0)) kk) := if_pos hlt
      have hj := ho.1 kk hlt
      rw [ej] at hm ⊢
      refine ⟨fun c2 => hfin _ (Or.inl ⟨kk, hlt, n4 hlt, by rw [z_le, zc_0] at c2; omega, rfl⟩), fun c2 => ⟨⟨hd25, hPL25.1, vp_in_nI (by omega) (by decide)⟩, fun r71 s71 t71 hq => ?_⟩⟩
      obtain ⟨rfl, rfl, hr⟩ := hq
      have hr2 : r71 = nI (gto σ0 p) := by rw [← gto_290 (v := 0), hr, hcp]; rfl
      subst hr2
      refine ⟨⟨hd25, vp_in_nI hg (by decide), Or.inr (by rw [vm_290]; exact vp_in_nI hj (by omega))⟩, fun r76 s76 t76 hq y81 h81 => ?_⟩
      obtain ⟨rfl, rfl, -, hq⟩ := hq
      rw [nI_clamp (by omega), vm_290] at hq
      have hr := hq kk hlt rfl
      subst hr
      obtain ⟨w1, w2, -, -⟩ := gto_nx hd hp (k := kk + 1) (by omega)
      rw [z_le, zc_0] at c2
      have hrng := z_rng x3
      have h81' : y81.toInt = x3.toInt - 1 := by rw [h81, z_add (by rw [zc_m1]; omega) (by rw [zc_m1]; omega), zc_m1]; omega
      refine ⟨⟨rfl, rfl, hd, hPL, hpl, hin, rfl, Or.inr ⟨kk + 1, by omega, by omega, ?_, by rw [hcp]⟩⟩, ?_⟩
      · rw [hcp]
        show ((cnp (od (vm σ0) (nJ (vm σ0))) (agm σ0) p kk + (if agm σ0 (od (vm σ0) (nJ (vm σ0)) kk) = p then 1 else 0) : Nat) : Int) + _ = _
        rw [if_pos (n4 hlt)]
        omega
      · rw [hm]
        unfold m_Mo_day_59
        rw [mx_pj ho hn.1 w2]
        omega
theorem c_Mo_day (l : Launch) (D : va_G) (ad : Nat → Nat) (ci cl : ClassId) : ∀ (sz : Nat) (σ0 : MI) (τ0 : ML) (a1 : Int32) (a2 : Int32), P_Mo_day σ0 τ0 a1 a2 → gMi l D (xw ad ci cl) (xt ci cl) (xa ad) y_Mo_day w_Mo_day rm_Mo_day [.ref (ad 29), .int a1, .int a2] sz σ0 τ0 (Q_Mo_day σ0 τ0 a1 a2) :=
  k_Mo_day l D ad ci cl P_Mo_day Q_Mo_day P_Mo_isPerson Q_Mo_isPerson P_Mo_givenTo Q_Mo_givenTo P_Mo_next Q_Mo_next (c_Mo_isPerson l D ad ci cl) (c_Mo_givenTo l D ad ci cl) (c_Mo_next l D ad ci cl) I_Mo_day_59 m_Mo_day_59 v_Mo_day_0 v_Mo_day_59
def P_Mo_waits (σ : MI) (τ : ML) (a1 : Int32) : Prop := Vd (vm σ) ∧ (σ 29 18 ≠ 0 → PLM σ)
def Q_Mo_waits (σ : MI) (τ : ML) (a1 r : Int32) (σ' : MI) (τ' : ML) : Prop :=
  τ = τ' ∧ ((¬ inP (σ 29 1).toInt a1 ∧ σ' = st2 σ 29 0 1) ∨ (inP (σ 29 1).toInt a1 ∧ σ 29 18 = 0 ∧ σ' = st2 σ 29 0 2) ∨ (inP (σ 29 1).toInt a1 ∧ σ 29 18 ≠ 0 ∧ r.toInt = (wtn (vm σ) (od (vm σ) (nJ (vm σ))) (agm σ) a1.toNatClampNeg (nJ (vm σ))).1 ∧ σ' = st2 σ 29 0 0))
def I_Mo_waits_66 (σ0 : MI) (τ0 : ML) (a1 x1 x2 x3 x4 x5 : Int32) (σ : MI) (τ : ML) : Prop :=
  τ0 = τ ∧ a1 = x1 ∧ Vd (vm σ0) ∧ PLM σ0 ∧ σ0 29 18 ≠ 0 ∧ inP (σ0 29 1).toInt a1 ∧ σ = st2 σ0 29 0 0 ∧ ∃ k, k ≤ nJ (vm σ0) ∧ (x2.toInt, x3.toInt) = wtn (vm σ0) (od (vm σ0) (nJ (vm σ0))) (agm σ0) a1.toNatClampNeg k ∧ x4.toInt = wat (vm σ0) (od (vm σ0) (nJ (vm σ0))) (agm σ0) a1.toNatClampNeg k ∧ x5 = pj (od (vm σ0) (nJ (vm σ0))) (nJ (vm σ0)) (nxp (od (vm σ0) (nJ (vm σ0))) (gto σ0 a1.toNatClampNeg) (nJ (vm σ0)) k)
noncomputable def m_Mo_waits_66 (σ0 : MI) (τ0 : ML) (a1 x1 x2 x3 x4 x5 : Int32) (σ : MI) (τ : ML) : Nat := mx (od (vm σ0) (nJ (vm σ0))) (nJ (vm σ0)) x5
theorem v_Mo_waits_0 (σ0 : MI) (τ0 : ML) (a1 : Int32) (h : P_Mo_waits σ0 τ0 a1) : s_Mo_waits_0 P_Mo_isPerson Q_Mo_isPerson P_Mo_givenTo Q_Mo_givenTo P_Mo_next Q_Mo_next σ0 τ0 a1 (fun z0 z1 z2 z3 z4 σ9 τ9 => I_Mo_waits_66 σ0 τ0 a1 z0 z1 z2 z3 z4 σ9 τ9) (Q_Mo_waits σ0 τ0 a1) := by
  obtain ⟨hd, hL⟩ := id h
  have hnp := hd.nPl
  have hn := hd.nJl
  unfold s_Mo_waits_0
  have href : ∀ (v : Int32) (s25 : MI), ¬ v ≤ 0 → s25 = st2 σ0 29 0 v → Q_Mo_waits σ0 τ0 a1 0 s25 τ0 → s_Mo_waits_28 P_Mo_isPerson Q_Mo_isPerson P_Mo_givenTo Q_Mo_givenTo P_Mo_next Q_Mo_next s25 τ0 a1 (fun z0 z1 z2 z3 z4 σ9 τ9 => I_Mo_waits_66 σ0 τ0 a1 z0 z1 z2 z3 z4 σ9 τ9) (Q_Mo_waits σ0 τ0 a1) := by
    intro v s25 hv hs hQ
    have e0 : s25 29 0 = v := by rw [hs, st2_at, if_pos ⟨rfl, rfl⟩]
    unfold s_Mo_waits_28
    rw [e0]
    exact ⟨fun c => absurd c hv, fun _ => hQ⟩
  refine ⟨trivial, fun r3 s3 t3 hq => ?_⟩
  obtain ⟨rfl, rfl, h3⟩ := hq
  refine ⟨fun c => ⟨fun c2 s25 h25 => href 2 s25 (by decide) h25 ⟨rfl, Or.inr (Or.inl ⟨rb_1 h3 c, c2, h25⟩)⟩, fun c2 s25 h25 => ?_⟩, fun c s25 h25 => href 1 s25 (by decide) h25 ⟨rfl, Or.inl ⟨rb_0 h3 c, h25⟩⟩⟩
  have hin : inP (σ0 29 1).toInt a1 := rb_1 h3 c
  have hPL := hL c2
  obtain ⟨p, hp, rfl⟩ : ∃ p, p < nP (vm σ0) ∧ a1 = nI p := by
    have hj := hin
    unfold inP at hj
    rw [vm_1 hd, z_nI (by omega)] at hj
    exact ⟨a1.toInt.toNat, by omega, z_of hj.1⟩
  have hcp : (nI p).toNatClampNeg = p := nI_clamp (by omega)
  subst h25
  have hPL25 : PLM (st2 σ0 29 0 0) := PLM_290 hPL
  have hd25 : Vd (vm (st2 σ0 29 0 0)) := by rw [vm_290]; exact hd
  have hg := gto_lt hd p
  have hp4 : vp_in (nI p) 4 := vp_in_nI (by omega) (by decide)
  unfold s_Mo_waits_28
  rw [show (st2 σ0 29 0 0) 29 0 = 0 by rw [st2_at, if_pos ⟨rfl, rfl⟩], st2_ne (by decide), st2_ne (by decide), hcp]
  refine ⟨fun _ => ⟨hp4, fun y45 h45 => ⟨hp4, fun y52 h52 => ⟨⟨hd25, hPL25.1, hp4⟩, fun r57 s57 t57 hq => ?_⟩⟩⟩, fun c => absurd (by decide) c⟩
  obtain ⟨rfl, rfl, hr⟩ := hq
  have hr2 : r57 = nI (gto σ0 p) := by rw [← gto_290 (v := 0), hr, hcp]; rfl
  subst hr2
  refine ⟨⟨hd25, vp_in_nI hg (by decide), Or.inl rfl⟩, fun r61 s61 t61 hq => ?_⟩
  obtain ⟨rfl, rfl, hq, -⟩ := hq
  rw [nI_clamp (by omega), vm_290] at hq
  refine ⟨rfl, rfl, hd, hPL, c2, hin, rfl, 0, Nat.zero_le _, ?_, ?_, by rw [hcp]; exact hq rfl⟩
  · rw [hcp, h45]; rfl
  · rw [hcp, h52]; rfl
theorem v_Mo_waits_66 (σ0 : MI) (τ0 : ML) (a1 : Int32) (x1 : Int32) (x2 : Int32) (x3 : Int32) (x4 : Int32) (x5 : Int32) (σ : MI) (τ : ML) (h : I_Mo_waits_66 σ0 τ0 a1 x1 x2 x3 x4 x5 σ τ) : s_Mo_waits_66 P_Mo_isPerson Q_Mo_isPerson P_Mo_givenTo Q_Mo_givenTo P_Mo_next Q_Mo_next σ τ x1 x2 x3 x4 x5 (fun z0 z1 z2 z3 z4 σ9 τ9 => I_Mo_waits_66 σ0 τ0 a1 z0 z1 z2 z3 z4 σ9 τ9 ∧ m_Mo_waits_66 σ0 τ0 a1 z0 z1 z2 z3 z4 σ9 τ9 < m_Mo_waits_66 σ0 τ0 a1 x1 x2 x3 x4 x5 σ τ) (Q_Mo_waits σ0 τ0 a1) := by
  obtain ⟨rfl, rfl, hd, hPL, hpl, hin, rfl, k, k1, hw, hat, rfl⟩ := h
  have hnp := hd.nPl
  have hn := hd.nJl
  obtain ⟨p, hp, rfl⟩ : ∃ p, p < nP (vm σ0) ∧ a1 = nI p := by
    have hj := hin
    unfold inP at hj
    rw [vm_1 hd, z_nI (by omega)] at hj
    exact ⟨a1.toInt.toNat, by omega, z_of hj.1⟩
  have hcp : (nI p).toNatClampNeg = p := nI_clamp (by omega)
  rw [hcp] at hw hat
  rw [hcp]
  have hPL25 : PLM (st2 σ0 29 0 0) := PLM_290 hPL
  have hd25 : Vd (vm (st2 σ0 29 0 0)) := by rw [vm_290]; exact hd
  have hg := gto_lt hd p
  have ho := od_ok (vm σ0) (nJ (vm σ0))
  have ho7 : ∀ i, i < nJ (vm σ0) → od (vm σ0) (nJ (vm σ0)) i < 7 := fun i hi => by have := ho.1 i hi; omega
  obtain ⟨n1, n2, n3, n4⟩ := gto_nx hd hp k1
  have hws := wtn_skip (d := vm σ0) n1 n3
  have has := wat_skip (d := vm σ0) n1 n3
  have hm : ∀ u1 u2 u3 u4 : Int32, m_Mo_waits_66 σ0 τ0 (nI p) u1 u2 u3 u4 (pj (od (vm σ0) (nJ (vm σ0))) (nJ (vm σ0)) (nxp (od (vm σ0) (nJ (vm σ0))) (gto σ0 p) (nJ (vm σ0)) k)) (st2 σ0 29 0 0) τ0 = nJ (vm σ0) - nxp (od (vm σ0) (nJ (vm σ0))) (gto σ0 p) (nJ (vm σ0)) k := fun _ _ _ _ => mx_pj ho hn.1 n2
  unfold s_Mo_waits_66
  rw [pj_neg (fun i hi => by have := ho.1 i hi; omega)]
  generalize nxp (od (vm σ0) (nJ (vm σ0))) (gto σ0 p) (nJ (vm σ0)) k = kk at *
  refine ⟨fun c => ⟨rfl, Or.inr (Or.inr ⟨hin, hpl, ?_, rfl⟩)⟩, fun c => ?_⟩
  · have e : kk = nJ (vm σ0) := by omega
    rw [e] at hws
    rw [hcp, hws, ← hw]
  · have hlt : kk < nJ (vm σ0) := by omega
    have ej : pj (od (vm σ0) (nJ (vm σ0))) (nJ (vm σ0)) kk = nI (od (vm σ0) (nJ (vm σ0)) kk) := if_pos hlt
    have hj := ho.1 kk hlt
    rw [← hw] at hws
    rw [← hat] at has
    have hrw := wtn_rng hd (a := agm σ0) (p := p) (by omega) ho7 kk (by omega)
    have hra := wat_rng hd (a := agm σ0) (p := p) (by omega) ho7 kk (by omega)
    have hjob := hd.job (j := od (vm σ0) (nJ (vm σ0)) kk) (by omega)
    rw [hws] at hrw
    have hrw2 : (-3180 * (kk : Int) ≤ x2.toInt ∧ x2.toInt ≤ 2880 * kk) ∧ 0 ≤ x3.toInt ∧ x3.toInt ≤ 2880 := hrw
    have hway := hd.way (k := (x4.toInt * 5 + vm σ0 13 (od (vm σ0) (nJ (vm σ0)) kk)).toNat) (by rw [has] at hra; omega)
    have hs1 : wtn (vm σ0) (od (vm σ0) (nJ (vm σ0))) (agm σ0) p (kk + 1) = (x2.toInt + (vm σ0 11 (od (vm σ0) (nJ (vm σ0)) kk) - x3.toInt - vm σ0 18 (x4.toInt * 5 + vm σ0 13 (od (vm σ0) (nJ (vm σ0)) kk)).toNat), vm σ0 12 (od (vm σ0) (nJ (vm σ0)) kk)) := by
      show (if agm σ0 (od (vm σ0) (nJ (vm σ0)) kk) = p then _ else _) = _
      rw [if_pos (n4 hlt), hws]
      unfold ttn
      rw [has]
      show (x2.toInt + (_ - x3.toInt - _), _) = _
      rw [Int.toNat_of_nonneg hway.1]
    have hs2 : wat (vm σ0) (od (vm σ0) (nJ (vm σ0))) (agm σ0) p (kk + 1) = vm σ0 13 (od (vm σ0) (nJ (vm σ0)) kk) := by
      show (if agm σ0 (od (vm σ0) (nJ (vm σ0)) kk) = p then _ else _) = _
      rw [if_pos (n4 hlt)]
    rw [has] at hra
    rw [ej] at hm ⊢
    have hj7 : vp_in (nI (od (vm σ0) (nJ (vm σ0)) kk)) 7 := vp_in_nI (by omega) (by decide)
    rw [nI_clamp (by omega), st2_ne (by decide), st2_ne (by decide), st2_ne (by decide), st2_ne (by decide)]
    obtain ⟨w1, w2, -, -⟩ := gto_nx hd hp (k := kk + 1) (by omega)
    generalize hje : od (vm σ0) (nJ (vm σ0)) kk = j at *
    have e13 : vm σ0 13 j = (σ0 41 j).toInt := rfl
    have e11 : vm σ0 11 j = (σ0 39 j).toInt := rfl
    have e12 : vm σ0 12 j = (σ0 40 j).toInt := rfl
    rw [e13] at hjob hway hs1 hs2
    have e18 : vm σ0 18 (x4.toInt * 5 + (σ0 41 j).toInt).toNat = (σ0 42 (x4.toInt * 5 + (σ0 41 j).toInt).toNat).toInt := rfl
    rw [e18] at hway hs1
    rw [e11, e12] at hs1 hjob
    clear e13 e11 e12 e18
    have h5 : (5 * x4).toInt = 5 * x4.toInt := by rw [z_mul (by rw [zc_5]; omega) (by rw [zc_5]; omega), zc_5]
    have hix : (5 * x4 + σ0 41 j).toInt = x4.toInt * 5 + (σ0 41 j).toInt := by rw [z_add (by omega) (by omega), h5]; omega
    have hcx : (5 * x4 + σ0 41 j).toNatClampNeg = (x4.toInt * 5 + (σ0 41 j).toInt).toNat := by rw [z_cl, hix]
    rw [hcx]
    refine ⟨hj7, hj7, by rw [z_in, hix]; omega, fun y100 h100 => ⟨hj7, fun y108 h108 => ⟨hj7, fun y116 h116 => ⟨⟨hd25, hPL25.1, vp_in_nI (by omega) (by decide)⟩, fun r121 s121 t121 hq => ?_⟩⟩⟩⟩
    obtain ⟨rfl, rfl, hr⟩ := hq
    have hr2 : r121 = nI (gto σ0 p) := by rw [← gto_290 (v := 0), hr, hcp]; rfl
    subst hr2
    refine ⟨⟨hd25, vp_in_nI hg (by decide), Or.inr (by rw [vm_290]; exact vp_in_nI hj (by omega))⟩, fun r126 s126 t126 hq => ?_⟩
    obtain ⟨rfl, rfl, -, hq⟩ := hq
    rw [nI_clamp (by omega), vm_290] at hq
    have hr := hq kk hlt (by rw [hje])
    subst hr
    have s1 : (σ0 39 j - x3).toInt = (σ0 39 j).toInt - x3.toInt := z_sub (by omega) (by omega)
    have s2 : (σ0 39 j - x3 - σ0 42 (x4.toInt * 5 + (σ0 41 j).toInt).toNat).toInt = (σ0 39 j).toInt - x3.toInt - (σ0 42 (x4.toInt * 5 + (σ0 41 j).toInt).toNat).toInt := by rw [z_sub (by omega) (by omega), s1]
    have s3 : y100.toInt = x2.toInt + ((σ0 39 j).toInt - x3.toInt - (σ0 42 (x4.toInt * 5 + (σ0 41 j).toInt).toNat).toInt) := by rw [h100, z_add (by omega) (by omega), s2]
    refine ⟨⟨rfl, rfl, hd, hPL, hpl, hin, rfl, kk + 1, by omega, ?_, ?_, by rw [hcp]⟩, ?_⟩
    · rw [hcp, hs1, s3, h108]
    · rw [hcp, hs2, h116]
    · rw [hm]
      unfold m_Mo_waits_66
      rw [mx_pj ho hn.1 w2]
      omega
theorem c_Mo_waits (l : Launch) (D : va_G) (ad : Nat → Nat) (ci cl : ClassId) : ∀ (sz : Nat) (σ0 : MI) (τ0 : ML) (a1 : Int32), P_Mo_waits σ0 τ0 a1 → gMi l D (xw ad ci cl) (xt ci cl) (xa ad) y_Mo_waits w_Mo_waits rm_Mo_waits [.ref (ad 29), .int a1] sz σ0 τ0 (Q_Mo_waits σ0 τ0 a1) :=
  k_Mo_waits l D ad ci cl P_Mo_waits Q_Mo_waits P_Mo_isPerson Q_Mo_isPerson P_Mo_givenTo Q_Mo_givenTo P_Mo_next Q_Mo_next (c_Mo_isPerson l D ad ci cl) (c_Mo_givenTo l D ad ci cl) (c_Mo_next l D ad ci cl) I_Mo_waits_66 m_Mo_waits_66 v_Mo_waits_0 v_Mo_waits_66
