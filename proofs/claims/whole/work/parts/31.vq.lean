def P_Mo_cost (σ : MI) (τ : ML) (a1 a2 : Int32) : Prop := Vd (vm σ) ∧ vp_in a1 4 ∧ vp_in a2 (2 ^ nJ (vm σ))
def Q_Mo_cost (σ : MI) (τ : ML) (a1 a2 r : Int32) (σ' : MI) (τ' : ML) : Prop := σ = σ' ∧ τ = τ' ∧ r = fv (trv (vm σ) (od (vm σ) (nJ (vm σ))) a1.toNatClampNeg a2.toNatClampNeg (nJ (vm σ)))
def I_Mo_cost_32 (σ0 : MI) (τ0 : ML) (a1 a2 x1 x2 x3 x4 x5 x6 x7 x8 : Int32) (σ : MI) (τ : ML) : Prop :=
  σ0 = σ ∧ τ0 = τ ∧ a1 = x1 ∧ a2 = x2 ∧ P_Mo_cost σ0 τ0 a1 a2 ∧ ∃ k, k ≤ nJ (vm σ0) ∧ x8 = pj (od (vm σ0) (nJ (vm σ0))) (nJ (vm σ0)) (nxp (od (vm σ0) (nJ (vm σ0))) a2.toNatClampNeg (nJ (vm σ0)) k) ∧
  x4 = nI (cnS (od (vm σ0) (nJ (vm σ0))) a2.toNatClampNeg k) ∧ tvf (vm σ0) (od (vm σ0) (nJ (vm σ0))) a1.toNatClampNeg a2.toNatClampNeg k = some (x6.toInt, x5.toInt, x3.toInt) ∧
  (x7 = -1 ∨ ∃ b, b < nJ (vm σ0) ∧ x7 = nI b ∧ (σ0 40 b).toInt ≤ x5.toInt)
noncomputable def m_Mo_cost_32 (σ0 : MI) (τ0 : ML) (a1 a2 x1 x2 x3 x4 x5 x6 x7 x8 : Int32) (σ : MI) (τ : ML) : Nat := mx (od (vm σ0) (nJ (vm σ0))) (nJ (vm σ0)) x8
theorem v_Mo_cost_0 (σ0 : MI) (τ0 : ML) (a1 : Int32) (a2 : Int32) (h : P_Mo_cost σ0 τ0 a1 a2) : s_Mo_cost_0 P_Mo_next Q_Mo_next σ0 τ0 a1 a2 (fun z0 z1 z2 z3 z4 z5 z6 z7 σ9 τ9 => I_Mo_cost_32 σ0 τ0 a1 a2 z0 z1 z2 z3 z4 z5 z6 z7 σ9 τ9) (Q_Mo_cost σ0 τ0 a1 a2) := by
  unfold s_Mo_cost_0
  have hn := h.1.nJl
  have hp7 : 2 ^ nJ (vm σ0) ≤ 2 ^ 7 := Nat.pow_le_pow_right (by decide) hn.1
  have h2 : vp_in a2 128 := by
    obtain ⟨S, hS, rfl⟩ := vp_in_of h.2.2 (by omega)
    exact vp_in_nI (by omega) (by decide)
  refine ⟨h.2.1, fun y hy => ⟨h.2.1, fun y2 hy2 => fun y3 hy3 => ⟨⟨h.1, h2, Or.inl rfl⟩, fun r s t hq => ?_⟩⟩⟩
  obtain ⟨rfl, rfl, hq, -⟩ := hq
  exact ⟨rfl, rfl, rfl, rfl, h, 0, Nat.zero_le _, hq rfl, rfl, by rw [hy, hy2]; rfl, Or.inl hy3⟩
theorem v_Mo_cost_32 (σ0 : MI) (τ0 : ML) (a1 : Int32) (a2 : Int32) (x1 : Int32) (x2 : Int32) (x3 : Int32) (x4 : Int32) (x5 : Int32) (x6 : Int32) (x7 : Int32) (x8 : Int32) (σ : MI) (τ : ML) (h : I_Mo_cost_32 σ0 τ0 a1 a2 x1 x2 x3 x4 x5 x6 x7 x8 σ τ) : s_Mo_cost_32 P_Mo_next Q_Mo_next σ τ x1 x2 x3 x4 x5 x6 x7 x8 (fun z0 z1 z2 z3 z4 z5 z6 z7 σ9 τ9 => I_Mo_cost_32 σ0 τ0 a1 a2 z0 z1 z2 z3 z4 z5 z6 z7 σ9 τ9 ∧ m_Mo_cost_32 σ0 τ0 a1 a2 z0 z1 z2 z3 z4 z5 z6 z7 σ9 τ9 < m_Mo_cost_32 σ0 τ0 a1 a2 x1 x2 x3 x4 x5 x6 x7 x8 σ τ) (Q_Mo_cost σ0 τ0 a1 a2) := by
  obtain ⟨rfl, rfl, rfl, rfl, hP, k, hk, rfl, rfl, ht, hb⟩ := h
  obtain ⟨hd, h1, h2⟩ := id hP
  have hn := hd.nJl
  have hp7 : 2 ^ nJ (vm σ0) ≤ 2 ^ 7 := Nat.pow_le_pow_right (by decide) hn.1
  obtain ⟨p, hp, rfl⟩ := vp_in_of h1 (by decide)
  obtain ⟨S, hS, rfl⟩ := vp_in_of h2 (by omega)
  have hcp : (nI p).toNatClampNeg = p := nI_clamp (by omega)
  have hcS : (nI S).toNatClampNeg = S := nI_clamp (by omega)
  have h128 : vp_in (nI S) 128 := vp_in_nI (by omega) (by decide)
  rw [hcS]
  rw [hcp, hcS] at ht
  have ho := od_ok (vm σ0) (nJ (vm σ0))
  have ho7 : ∀ i, i < nJ (vm σ0) → od (vm σ0) (nJ (vm σ0)) i < 7 := fun i hi => by have := ho.1 i hi; omega
  generalize hoe : od (vm σ0) (nJ (vm σ0)) = o at *
  obtain ⟨n1, n2, n3, n4⟩ := nxp_spec (o := o) (S := S) hk
  have hrng := tvf_rng hd hp (fun k hk => ho7 k hk) k _ _ _ hk ht
  have hcn := cnS_le o S k
  have htn : tvf (vm σ0) o p S (nxp o S (nJ (vm σ0)) k) = some (x6.toInt, x5.toInt, x3.toInt) := by rw [tvf_skip n1 n3]; exact ht
  have hcnn : cnS o S (nxp o S (nJ (vm σ0)) k) = cnS o S k := cnS_skip n1 n3
  unfold s_Mo_cost_32
  rw [pj_neg (fun i hi => by have := ho7 i hi; omega), hcp]
  refine ⟨fun c => ?_, fun c => ?_⟩
  · have e : nxp o S (nJ (vm σ0)) k = nJ (vm σ0) := by omega
    rw [e] at htn hcnn
    rw [cnS_all ho hn.1 hS] at hcnn
    have hfin : ¬ (vm σ0 6 p = 2 ∧ 2 < pcn S) → Q_Mo_cost σ0 τ0 (nI p) (nI S) x3 σ0 τ0 := by
      intro hno
      refine ⟨rfl, rfl, ?_⟩
      rw [hcp, hcS, hoe]
      unfold trv
      rw [if_neg hno, htn]
      exact z_of hrng.2.2.2.2.1
    have e6 : vm σ0 6 p = (σ0 34 p).toInt := rfl
    rw [z_eq, zc_2, ← hcnn, z_le, z_nI (by omega), zc_2]
    refine ⟨h1, fun c2 => hfin (fun z => c2 z.1), fun c2 => ⟨fun c3 => hfin (fun z => ?_), fun c3 => ⟨rfl, rfl, ?_⟩⟩⟩
    · have := z.2; omega
    · rw [hcp, hcS, hoe]
      unfold trv
      rw [if_pos ⟨c2, by omega⟩]
      rfl
  · have hlt : nxp o S (nJ (vm σ0)) k < nJ (vm σ0) := by omega
    generalize nxp o S (nJ (vm σ0)) k = kk at *
    have ej : pj o (nJ (vm σ0)) kk = nI (o kk) := if_pos hlt
    have hs := tvf_succ htn
    have hj := ho.1 kk hlt
    have hbit := n4 hlt
    rw [if_pos hbit] at hs
    have hm : ∀ (u1 u2 u3 u4 u5 u6 u7 : Int32), m_Mo_cost_32 σ0 τ0 (nI p) (nI S) u1 u2 u3 u4 u5 u6 u7 (pj o (nJ (vm σ0)) (nxp o S (nJ (vm σ0)) (kk + 1))) σ0 τ0 < m_Mo_cost_32 σ0 τ0 (nI p) (nI S) (nI p) (nI S) x3 (nI (cnS o S k)) x5 x6 x7 (pj o (nJ (vm σ0)) kk) σ0 τ0 := by
      intro u1 u2 u3 u4 u5 u6 u7
      obtain ⟨w1, w2, w3, w4⟩ := nxp_spec (o := o) (S := S) (n := nJ (vm σ0)) (k := kk + 1) (by omega)
      unfold m_Mo_cost_32
      rw [hoe, mx_pj ho hn.1 w2, mx_pj ho hn.1 (by omega)]
      omega
    have hpj : ∀ r, (nI (o kk) = -1 → r = pj o (nJ (vm σ0)) (nxp o S (nJ (vm σ0)) 0)) ∧ (∀ i, i < nJ (vm σ0) → nI (o kk) = nI (o i) → r = pj o (nJ (vm σ0)) (nxp o S (nJ (vm σ0)) (i + 1))) → r = pj o (nJ (vm σ0)) (nxp o S (nJ (vm σ0)) (kk + 1)) := fun r z => z.2 kk hlt rfl
    have hc1 : cnS o S (kk + 1) = cnS o S k + 1 := by
      rw [← hcnn]
      show dp_sum _ kk + (if S.testBit (o kk) then 1 else 0) = dp_sum _ kk + 1
      rw [if_pos hbit]
    rw [ej]
    rw [ej] at hm
    generalize hje : o kk = j at *
    have hj7 : vp_in (nI j) 7 := vp_in_nI (by omega) (by decide)
    have hcj : (nI j).toNatClampNeg = j := nI_clamp (by omega)
    have hjob := hd.job (j := j) (by omega)
    have hsp := hd.span hj
    have hrest := hd.rest
    have hway := hd.way (k := (x6.toInt * 5 + vm σ0 13 j).toNat) (by omega)
    have hnone : tvf (vm σ0) o p S (kk + 1) = none → Q_Mo_cost σ0 τ0 (nI p) (nI S) 1000000000 σ0 τ0 := by
      intro hz
      refine ⟨rfl, rfl, ?_⟩
      rw [hcp, hcS, hoe]
      unfold trv
      split
      · rfl
      · rw [tvf_none (k := kk + 1) (by omega) hz]
        rfl
    rw [hcj]
    have q2 : vm σ0 2 p = (σ0 30 p).toInt := rfl
    have q4 : vm σ0 4 p = (σ0 32 p).toInt := rfl
    have q6 : vm σ0 6 p = (σ0 34 p).toInt := rfl
    have q9 : vm σ0 9 j = (σ0 37 j).toInt := rfl
    have q11 : vm σ0 11 j = (σ0 39 j).toInt := rfl
    have q12 : vm σ0 12 j = (σ0 40 j).toInt := rfl
    have q13 : vm σ0 13 j = (σ0 41 j).toInt := rfl
    have q17 : vm σ0 17 0 = (σ0 29 17).toInt := rfl
    have q18 : vm σ0 18 (x6.toInt * 5 + vm σ0 13 j).toNat = (σ0 42 (x6.toInt * 5 + vm σ0 13 j).toNat).toInt := rfl
    rw [q2, q4, q6, q9, q11, q12, q18] at hs
    rw [q13] at hs hjob hway q18
    rw [q11, q12] at hjob hsp
    rw [q18] at hway
    rw [q17] at hrest hs
    clear q2 q4 q6 q9 q11 q12 q13 q17 q18
    have h5 : (5 * x6).toInt = 5 * x6.toInt := by rw [z_mul (by rw [zc_5]; omega) (by rw [zc_5]; omega), zc_5]
    have hix : (5 * x6 + σ0 41 j).toInt = x6.toInt * 5 + (σ0 41 j).toInt := by rw [z_add (by omega) (by omega), h5]; omega
    have hix2 : (5 * x6 + σ0 41 j).toNatClampNeg = (x6.toInt * 5 + (σ0 41 j).toInt).toNat := by rw [z_cl, hix]
    refine ⟨hj7, by rw [z_in, hix]; omega, fun t hte => ?_⟩
    rw [hix2] at hte
    rw [← hte] at hs hway
    clear hte hix hix2 h5
    have hf0 : ¬ ((σ0 37 j).toInt ≤ (σ0 30 p).toInt ∧ (σ0 40 j).toInt ≤ (σ0 32 p).toInt ∧ ¬ ((σ0 34 p).toInt = 1 ∧ (σ0 39 j).toInt < 360) ∧ x5.toInt + t.toInt ≤ (σ0 39 j).toInt) → s_Mo_cost_165 P_Mo_next Q_Mo_next σ0 τ0 (nI p) (nI S) x3 (nI (cnS o S k)) (nI j) t 0 (fun z0 z1 z2 z3 z4 z5 z6 z7 σ9 τ9 => I_Mo_cost_32 σ0 τ0 (nI p) (nI S) z0 z1 z2 z3 z4 z5 z6 z7 σ9 τ9 ∧ m_Mo_cost_32 σ0 τ0 (nI p) (nI S) z0 z1 z2 z3 z4 z5 z6 z7 σ9 τ9 < m_Mo_cost_32 σ0 τ0 (nI p) (nI S) (nI p) (nI S) x3 (nI (cnS o S k)) x5 x6 x7 (nI j) σ0 τ0) (Q_Mo_cost σ0 τ0 (nI p) (nI S)) := by
      intro hno
      unfold s_Mo_cost_165
      refine ⟨fun z => absurd rfl z, fun _ => hnone ?_⟩
      rw [hs, if_neg hno]
    have hf1 : ((σ0 37 j).toInt ≤ (σ0 30 p).toInt ∧ (σ0 40 j).toInt ≤ (σ0 32 p).toInt ∧ ¬ ((σ0 34 p).toInt = 1 ∧ (σ0 39 j).toInt < 360) ∧ x5.toInt + t.toInt ≤ (σ0 39 j).toInt) → s_Mo_cost_126 P_Mo_next Q_Mo_next σ0 τ0 (nI p) (nI S) x3 (nI (cnS o S k)) x7 (nI j) t (fun z0 z1 z2 z3 z4 z5 z6 z7 σ9 τ9 => I_Mo_cost_32 σ0 τ0 (nI p) (nI S) z0 z1 z2 z3 z4 z5 z6 z7 σ9 τ9 ∧ m_Mo_cost_32 σ0 τ0 (nI p) (nI S) z0 z1 z2 z3 z4 z5 z6 z7 σ9 τ9 < m_Mo_cost_32 σ0 τ0 (nI p) (nI S) (nI p) (nI S) x3 (nI (cnS o S k)) x5 x6 x7 (nI j) σ0 τ0) (Q_Mo_cost σ0 τ0 (nI p) (nI S)) := by
      intro hyes
      have hgo : s_Mo_cost_165 P_Mo_next Q_Mo_next σ0 τ0 (nI p) (nI S) x3 (nI (cnS o S k)) (nI j) t 1 (fun z0 z1 z2 z3 z4 z5 z6 z7 σ9 τ9 => I_Mo_cost_32 σ0 τ0 (nI p) (nI S) z0 z1 z2 z3 z4 z5 z6 z7 σ9 τ9 ∧ m_Mo_cost_32 σ0 τ0 (nI p) (nI S) z0 z1 z2 z3 z4 z5 z6 z7 σ9 τ9 < m_Mo_cost_32 σ0 τ0 (nI p) (nI S) (nI p) (nI S) x3 (nI (cnS o S k)) x5 x6 x7 (nI j) σ0 τ0) (Q_Mo_cost σ0 τ0 (nI p) (nI S)) := by
        unfold s_Mo_cost_165
        rw [hcj]
        refine ⟨fun _ y177 h177 y178 h178 => ⟨hj7, fun y193 h193 => ⟨hj7, fun y202 h202 => ⟨⟨hd, h128, Or.inr (vp_in_nI hj (by omega))⟩, fun r s2 t2 hq => ?_⟩⟩⟩, fun z => absurd z (by decide)⟩
        obtain ⟨rfl, rfl, hq⟩ := hq
        rw [hcS, hoe] at hq
        have hr := hpj r hq
        subst hr
        refine ⟨⟨rfl, rfl, rfl, rfl, hP, kk + 1, by omega, by rw [hcS, hoe], by rw [h178, hcS, hoe, hc1, nI_1], ?_, Or.inr ⟨j, hj, rfl, ?_⟩⟩, hm _ _ _ _ _ _ _⟩
        · rw [hcp, hcS, hoe, hs, if_pos hyes, h177, h193, h202, z_add (by omega) (by omega), z_add (by omega) (by omega)]
        · rw [h193, z_add (by omega) (by omega)]; omega
      unfold s_Mo_cost_126
      refine ⟨fun _ => hgo, fun c5 => ⟨hj7, fun c6 => ?_, fun c6 => ?_⟩⟩
      · rcases hb with rfl | ⟨b, hbn, rfl, hbt⟩
        · exact absurd (by decide) c5
        · have hsb := hd.span hbn
          have hb7 : vp_in (nI b) 7 := vp_in_nI (by omega) (by decide)
          have q1 : vm σ0 11 b = (σ0 39 b).toInt := rfl
          have q3 : vm σ0 12 b = (σ0 40 b).toInt := rfl
          rw [q1, q3] at hsb
          rw [hcj, nI_clamp (n := b) (by omega), z_le]
          exact ⟨hb7, fun c7 => absurd c7 (by omega), fun _ => hgo⟩
      · rw [z_lt, zc_0] at c5
        rw [z_le, zc_0] at c6
        omega
    have hadd : (x5 + t).toInt = x5.toInt + t.toInt := z_add (by omega) (by omega)
    rw [z_lt, z_lt, z_lt, z_lt, hadd, z_eq, zc_1, zc_360]
    refine ⟨hj7, h1, fun c3 => hf0 (by omega), fun c3 => ⟨hj7, fun c4 => hf0 (by omega), fun c4 => ⟨hj7, h1, fun c5 => hf0 (by omega), fun c5 => ⟨h1, fun c6 => hf1 (by omega), fun c6 => ⟨hj7, fun c7 => hf0 (by omega), fun c7 => hf1 (by omega)⟩⟩⟩⟩⟩
theorem c_Mo_cost (l : Launch) (D : va_G) (ad : Nat → Nat) (ci cl : ClassId) : ∀ (sz : Nat) (σ0 : MI) (τ0 : ML) (a1 : Int32) (a2 : Int32), P_Mo_cost σ0 τ0 a1 a2 → gMi l D (xw ad ci cl) (xt ci cl) (xa ad) y_Mo_cost w_Mo_cost rm_Mo_cost [.ref (ad 29), .int a1, .int a2] sz σ0 τ0 (Q_Mo_cost σ0 τ0 a1 a2) :=
  k_Mo_cost l D ad ci cl P_Mo_cost Q_Mo_cost P_Mo_next Q_Mo_next (c_Mo_next l D ad ci cl) I_Mo_cost_32 m_Mo_cost_32 v_Mo_cost_0 v_Mo_cost_32
