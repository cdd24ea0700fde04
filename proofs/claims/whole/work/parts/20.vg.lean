def P_Plan_walkOf (σ : MI) (τ : ML) (a1 a2 : Int32) : Prop := Vd (vx σ) ∧ Orx σ ∧ ADX σ ∧ vp_in a1 4 ∧ a2 = σ 5 a1.toNatClampNeg
def Q_Plan_walkOf (σ : MI) (τ : ML) (a1 a2 : Int32) (σ' : MI) (τ' : ML) : Prop :=
  τ = τ' ∧ (∀ c, c ≠ 22 → c ≠ 24 → σ' c = σ c) ∧ σ' 22 0 = σ 22 0 ∧ σ' 22 1 = σ 22 1 ∧
  σ' 22 2 = σ 22 2 + nI (cnp (od (vx σ) (nJ (vx σ))) (adx σ) a1.toNatClampNeg (nJ (vx σ))) ∧
  σ' 22 3 = σ 22 3 + nI (trs (vx σ) (od (vx σ) (nJ (vx σ))) (adx σ) a1.toNatClampNeg (nJ (vx σ))) ∧
  ∀ l, l < nJ (vx σ) → σ' 24 (od (vx σ) (nJ (vx σ)) l) = if adx σ (od (vx σ) (nJ (vx σ)) l) = a1.toNatClampNeg then nI (ttn (vx σ) (od (vx σ) (nJ (vx σ))) (adx σ) a1.toNatClampNeg l) else σ 24 (od (vx σ) (nJ (vx σ)) l)
def I_Plan_walkOf_6 (σ0 : MI) (τ0 : ML) (a1 a2 x1 x5 x6 : Int32) (σ : MI) (τ : ML) : Prop :=
  P_Plan_walkOf σ0 τ0 a1 a2 ∧ τ0 = τ ∧ a1 = x1 ∧ (∀ c, c ≠ 22 → c ≠ 24 → σ c = σ0 c) ∧ σ 22 0 = σ0 22 0 ∧ σ 22 1 = σ0 22 1 ∧
  ∃ k, k ≤ nJ (vx σ0) ∧ x6 = nI k ∧ x5.toInt = wat (vx σ0) (od (vx σ0) (nJ (vx σ0))) (adx σ0) a1.toNatClampNeg k ∧
  σ 22 2 = σ0 22 2 + nI (cnp (od (vx σ0) (nJ (vx σ0))) (adx σ0) a1.toNatClampNeg k) ∧
  σ 22 3 = σ0 22 3 + nI (trs (vx σ0) (od (vx σ0) (nJ (vx σ0))) (adx σ0) a1.toNatClampNeg k) ∧
  ∀ l, l < nJ (vx σ0) → σ 24 (od (vx σ0) (nJ (vx σ0)) l) = if l < k ∧ adx σ0 (od (vx σ0) (nJ (vx σ0)) l) = a1.toNatClampNeg then nI (ttn (vx σ0) (od (vx σ0) (nJ (vx σ0))) (adx σ0) a1.toNatClampNeg l) else σ0 24 (od (vx σ0) (nJ (vx σ0)) l)
def m_Plan_walkOf_6 (σ0 : MI) (τ0 : ML) (a1 a2 x1 x5 x6 : Int32) (σ : MI) (τ : ML) : Nat := 100 - x6.toNatClampNeg
theorem v_Plan_walkOf_0 (σ0 : MI) (τ0 : ML) (a1 : Int32) (a2 : Int32) (h : P_Plan_walkOf σ0 τ0 a1 a2) : s_Plan_walkOf_0 P_Ways_between Q_Ways_between σ0 τ0 a1 a2 (fun z0 z1 z2 σ9 τ9 => I_Plan_walkOf_6 σ0 τ0 a1 a2 z0 z1 z2 σ9 τ9) (Q_Plan_walkOf σ0 τ0 a1 a2) := by
  unfold s_Plan_walkOf_0
  refine ⟨h, rfl, rfl, fun _ _ _ => rfl, rfl, rfl, 0, Nat.zero_le _, rfl, ?_, ?_, ?_, fun l hl => ?_⟩
  · rw [h.2.2.2.2]; rfl
  · show _ = _ + nI 0
    rw [nI_0]; simp
  · show _ = _ + nI 0
    rw [nI_0]; simp
  · rw [if_neg (by omega)]
theorem v_Plan_walkOf_6 (σ0 : MI) (τ0 : ML) (a1 : Int32) (a2 : Int32) (x1 : Int32) (x5 : Int32) (x6 : Int32) (σ : MI) (τ : ML) (h : I_Plan_walkOf_6 σ0 τ0 a1 a2 x1 x5 x6 σ τ) : s_Plan_walkOf_6 P_Ways_between Q_Ways_between σ τ x1 x5 x6 (fun z0 z1 z2 σ9 τ9 => I_Plan_walkOf_6 σ0 τ0 a1 a2 z0 z1 z2 σ9 τ9 ∧ m_Plan_walkOf_6 σ0 τ0 a1 a2 z0 z1 z2 σ9 τ9 < m_Plan_walkOf_6 σ0 τ0 a1 a2 x1 x5 x6 σ τ) (Q_Plan_walkOf σ0 τ0 a1 a2) := by
  obtain ⟨hP, rfl, rfl, hfr, h0, h1, k, hk, rfl, hx5, h2, h3, h4⟩ := h
  obtain ⟨hd, ho, had, hv1, ha2⟩ := id hP
  have hn := hd.nJl
  have e8 := vx_8 hd
  obtain ⟨p, hp, rfl⟩ := vp_in_of hv1 (by decide)
  have hcp : (nI p).toNatClampNeg = p := nI_clamp (by omega)
  rw [hcp] at hx5 h2 h3 h4
  have hck : (nI k).toNatClampNeg = k := nI_clamp (by omega)
  have ho7 : ∀ k, k < nJ (vx σ0) → od (vx σ0) (nJ (vx σ0)) k < 7 := fun k hk => Nat.lt_of_lt_of_le (od_lt7 hd hk) hn.1
  have hw := wat_rng hd hp ho7 (a := adx σ0) k hk
  have hm : ∀ (u y : Int32) (s9 : MI), k < nJ (vx σ0) → y = nI k + 1 → m_Plan_walkOf_6 σ0 τ0 (nI p) a2 (nI p) u y s9 τ0 < m_Plan_walkOf_6 σ0 τ0 (nI p) a2 (nI p) x5 (nI k) σ τ0 := by
    intro u y s9 hl hy
    unfold m_Plan_walkOf_6
    rw [hy, nI_1, nI_clamp (by omega), hck]
    omega
  unfold s_Plan_walkOf_6
  rw [hfr 8 (by decide) (by decide), e8, nI_leI (by omega) (by omega), hck]
  refine ⟨fun c => ?_, fun c => ⟨vp_in_nI (by omega) (by decide), fun y hy => ?_⟩⟩
  · have e : k = nJ (vx σ0) := by omega
    subst e
    refine ⟨rfl, hfr, h0, h1, by rw [hcp]; exact h2, by rw [hcp]; exact h3, fun l hl => ?_⟩
    rw [hcp, h4 l hl]
    by_cases z : adx σ0 (od (vx σ0) (nJ (vx σ0)) l) = p
    · rw [if_pos ⟨hl, z⟩, if_pos z]
    · rw [if_neg (fun q => z q.2), if_neg z]
  · have hkn : k < nJ (vx σ0) := by omega
    have hj := od_lt7 hd hkn
    rw [hfr 14 (by decide) (by decide), ho k hkn] at hy
    have hinj : ∀ l, l < nJ (vx σ0) → l ≠ k → od (vx σ0) (nJ (vx σ0)) l ≠ od (vx σ0) (nJ (vx σ0)) k := fun l hl hne e => hne (ord_inj (od_ok _ _) hl hkn e)
    obtain ⟨j, ej⟩ : ∃ j, j = od (vx σ0) (nJ (vx σ0)) k := ⟨_, rfl⟩
    rw [← ej] at hy hj
    subst hy
    have hcj : (nI j).toNatClampNeg = j := nI_clamp (by omega)
    have hj7 : vp_in (nI j) 7 := vp_in_nI (by omega) (by decide)
    have hA := had j hj
    have hjob := (hd.job (j := j) (by omega)).2.2.2.2
    have ewat : wat (vx σ0) (od (vx σ0) (nJ (vx σ0))) (adx σ0) p (k + 1) = if adx σ0 j = p then vx σ0 13 j else wat (vx σ0) (od (vx σ0) (nJ (vx σ0))) (adx σ0) p k := by rw [wat, ← ej]
    have ecn : cnp (od (vx σ0) (nJ (vx σ0))) (adx σ0) p (k + 1) = cnp (od (vx σ0) (nJ (vx σ0))) (adx σ0) p k + (if adx σ0 j = p then 1 else 0) := by rw [cnp, ← ej]
    have etr : trs (vx σ0) (od (vx σ0) (nJ (vx σ0))) (adx σ0) p (k + 1) = trs (vx σ0) (od (vx σ0) (nJ (vx σ0))) (adx σ0) p k + (if adx σ0 j = p then ttn (vx σ0) (od (vx σ0) (nJ (vx σ0))) (adx σ0) p k else 0) := by rw [trs, ← ej]
    rw [hcj, hfr 23 (by decide) (by decide), hA.1, dv_eq hA.2 hp]
    refine ⟨hj7, fun c2 y2 hy2 => ⟨⟨hP, rfl, rfl, hfr, h0, h1, k + 1, by omega, by rw [hy2, nI_1], ?_, ?_, ?_, fun l hl => ?_⟩, hm _ _ _ hkn hy2⟩, fun c2 => ⟨hj7, ?_, fun r s t hq => ?_⟩⟩
    · rw [hcp, ewat, if_neg c2]; exact hx5
    · rw [hcp, ecn, if_neg c2]; exact h2
    · rw [hcp, etr, if_neg c2]; exact h3
    · rw [hcp, h4 l hl]
      by_cases z : l = k
      · subst z
        rw [← ej, if_neg (fun q => c2 q.2), if_neg (fun q => c2 q.2)]
      · have : (l < k + 1) ↔ (l < k) := by omega
        simp only [this]
    · rw [hfr 13 (by decide) (by decide)]
      refine ⟨⟨by omega, by omega⟩, hjob⟩
    · obtain ⟨rfl, rfl, rfl⟩ := hq
      refine ⟨hj7, fun s55 h55 => ⟨hj7, fun s69 h69 s79 h79 => ⟨hj7, fun y89 h89 y91 h91 => ?_⟩⟩⟩
      have hway : σ 18 (x5.toInt * 5 + (σ 13 j).toInt).toNat = nI (ttn (vx σ0) (od (vx σ0) (nJ (vx σ0))) (adx σ0) p k) := by
        rw [hfr 13 (by decide) (by decide), hfr 18 (by decide) (by decide), hx5]
        unfold ttn
        rw [← ej]
        refine z_of (hd.way ?_).1
        have hj13 : vx σ0 13 j = (σ0 13 j).toInt := rfl
        omega
      rw [hway] at h55
      have e55 : s55 24 j = nI (ttn (vx σ0) (od (vx σ0) (nJ (vx σ0))) (adx σ0) p k) := by rw [h55, st2_at, if_pos ⟨rfl, rfl⟩]
      have e55b : s55 22 = σ 22 := by rw [h55, st2_ne (by decide)]
      rw [e55, e55b] at h69
      have e69 : s69 22 2 = σ 22 2 := by rw [h69, st2_at, if_neg (by decide), e55b]
      rw [e69] at h79
      have e79 : ∀ c, c ≠ 22 → s79 c = s55 c := fun c hc => by rw [h79, st2_ne hc, h69, st2_ne hc]
      refine ⟨⟨hP, rfl, rfl, fun c hc1 hc2 => by rw [e79 c hc1, h55, st2_ne hc2]; exact hfr c hc1 hc2, ?_, ?_, k + 1, by omega, by rw [h91, nI_1], ?_, ?_, ?_, fun l hl => ?_⟩, hm _ _ _ hkn h91⟩
      · rw [h79, st2_at, if_neg (by decide), h69, st2_at, if_neg (by decide), e55b]; exact h0
      · rw [h79, st2_at, if_neg (by decide), h69, st2_at, if_neg (by decide), e55b]; exact h1
      · rw [hcp, ewat, if_pos c2, h89, e79 13 (by decide), h55, st2_ne (by decide), hfr 13 (by decide) (by decide)]; rfl
      · rw [hcp, ecn, if_pos c2, h79, st2_at, if_pos ⟨rfl, rfl⟩, h2, Int32.add_assoc, nI_1]
      · rw [hcp, etr, if_pos c2, h79, st2_at, if_neg (by decide), h69, st2_at, if_pos ⟨rfl, rfl⟩, h3, Int32.add_assoc, nI_add]
      · rw [hcp, e79 24 (by decide), h55, st2_at]
        by_cases z : l = k
        · subst z
          rw [← ej, if_pos ⟨rfl, rfl⟩, if_pos ⟨by omega, c2⟩]
        · rw [if_neg (fun q => by have := hinj l hl z; rw [← ej] at this; exact this q.2), h4 l hl]
          have : (l < k + 1) ↔ (l < k) := by omega
          simp only [this]
theorem c_Plan_walkOf (l : Launch) (D : va_G) (ad : Nat → Nat) (ci cl : ClassId) : ∀ (sz : Nat) (σ0 : MI) (τ0 : ML) (a1 : Int32) (a2 : Int32), P_Plan_walkOf σ0 τ0 a1 a2 → gMv l D (xw ad ci cl) (xt ci cl) (xa ad) y_Plan_walkOf w_Plan_walkOf rm_Plan_walkOf [.ref (ad 22), .int a1, .int a2, .ref (ad 8), .ref (ad 17)] sz σ0 τ0 (Q_Plan_walkOf σ0 τ0 a1 a2) :=
  k_Plan_walkOf l D ad ci cl P_Plan_walkOf Q_Plan_walkOf P_Ways_between Q_Ways_between (c_Ways_between l D ad ci cl) I_Plan_walkOf_6 m_Plan_walkOf_6 v_Plan_walkOf_0 v_Plan_walkOf_6
