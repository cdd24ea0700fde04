def agm (σ : MI) : Nat → Nat := nb (nP (vm σ)) (av σ 43)
def P_Mo_givesTugs (σ : MI) (τ : ML) : Prop := Vd (vm σ) ∧ AV σ 43
def Q_Mo_givesTugs (σ : MI) (τ : ML) (σ' : MI) (τ' : ML) : Prop := τ = τ' ∧ (∀ c, c ≠ 44 → σ' c = σ c) ∧ (∀ j, j < nJ (vm σ) → σ' 44 j = nI (tgm σ' j)) ∧ tgs (vm σ) (od (vm σ) (nJ (vm σ))) (agm σ) (nJ (vm σ)) (tgm σ')
def gtm (σ : MI) : Nat → Bool := fun j => decide (agm σ j ≠ 4 ∧ 0 < vm σ 10 j)
def I_Mo_givesTugs_4 (σ0 : MI) (τ0 : ML) (x1 x2 : Int32) (σ : MI) (τ : ML) : Prop :=
  τ0 = τ ∧ P_Mo_givesTugs σ0 τ0 ∧ (∀ c, c ≠ 44 → σ c = σ0 c) ∧ ∃ i, i ≤ nJ (vm σ0) ∧ x2 = nI i ∧ x1 = nI (dp_mk (gtm σ0) i) ∧ ∀ j, j < i → σ 44 j = 0
def I_Mo_givesTugs_64 (σ0 : MI) (τ0 : ML) (x1 x2 : Int32) (σ : MI) (τ : ML) : Prop :=
  τ0 = τ ∧ P_Mo_givesTugs σ0 τ0 ∧ (∀ c, c ≠ 44 → σ c = σ0 c) ∧ x1 = nI (dp_mk (gtm σ0) (nJ (vm σ0))) ∧ ∃ k, k ≤ nJ (vm σ0) ∧ x2 = pj (od (vm σ0) (nJ (vm σ0))) (nJ (vm σ0)) (nxp (od (vm σ0) (nJ (vm σ0))) (dp_mk (gtm σ0) (nJ (vm σ0))) (nJ (vm σ0)) k) ∧
  (∀ j, j < nJ (vm σ0) → σ 44 j = nI (tgm σ j)) ∧ tgs (vm σ0) (od (vm σ0) (nJ (vm σ0))) (agm σ0) k (tgm σ)
def m_Mo_givesTugs_4 (σ0 : MI) (τ0 : ML) (x1 x2 : Int32) (σ : MI) (τ : ML) : Nat := 1000 - x2.toNatClampNeg
noncomputable def m_Mo_givesTugs_64 (σ0 : MI) (τ0 : ML) (x1 x2 : Int32) (σ : MI) (τ : ML) : Nat := mx (od (vm σ0) (nJ (vm σ0))) (nJ (vm σ0)) x2
theorem vm_44 {σ σ0 : MI} (h : ∀ c, c ≠ 44 → σ c = σ0 c) : vm σ = vm σ0 :=
  vm_congr (by rw [h 29 (by decide)]) (by rw [h 29 (by decide)]) (by rw [h 29 (by decide)]) (by rw [h 29 (by decide)]) (fun c hc => h c (by intro h2; subst h2; revert hc; decide))
theorem tgs_skip {d : Dt} {o a : Nat → Nat} {k : Nat} {t : Nat → Nat} (h : tgs d o a k t) : ∀ m, k ≤ m → (∀ i, k ≤ i → i < m → ¬ (a (o i) ≠ 4 ∧ 0 < d 10 (o i))) → tgs d o a m t := by
  intro m
  induction m with
  | zero => intro hk _; have : k = 0 := by omega
            subst this; exact h
  | succ m ih =>
    intro hk hn
    by_cases e : k = m + 1
    · subst e; exact h
    · exact ⟨t, ih (by omega) (fun i h1 h2 => hn i h1 (by omega)), Or.inr ⟨hn m (by omega) (by omega), fun _ _ => rfl⟩⟩
theorem v_Mo_givesTugs_0 (σ0 : MI) (τ0 : ML) (h : P_Mo_givesTugs σ0 τ0) : s_Mo_givesTugs_0 P_Mo_next Q_Mo_next P_Mo_best Q_Mo_best σ0 τ0 (fun z0 z1 σ9 τ9 => I_Mo_givesTugs_4 σ0 τ0 z0 z1 σ9 τ9) (fun z0 z1 σ9 τ9 => I_Mo_givesTugs_64 σ0 τ0 z0 z1 σ9 τ9) (Q_Mo_givesTugs σ0 τ0) := by
  unfold s_Mo_givesTugs_0
  exact ⟨rfl, h, fun _ _ => rfl, 0, Nat.zero_le _, rfl, rfl, fun j hj => absurd hj (Nat.not_lt_zero j)⟩
theorem v_Mo_givesTugs_4 (σ0 : MI) (τ0 : ML) (x1 : Int32) (x2 : Int32) (σ : MI) (τ : ML) (h : I_Mo_givesTugs_4 σ0 τ0 x1 x2 σ τ) : s_Mo_givesTugs_4 P_Mo_next Q_Mo_next P_Mo_best Q_Mo_best σ τ x1 x2 (fun z0 z1 σ9 τ9 => I_Mo_givesTugs_4 σ0 τ0 z0 z1 σ9 τ9 ∧ m_Mo_givesTugs_4 σ0 τ0 z0 z1 σ9 τ9 < m_Mo_givesTugs_4 σ0 τ0 x1 x2 σ τ) (fun z0 z1 σ9 τ9 => I_Mo_givesTugs_64 σ0 τ0 z0 z1 σ9 τ9 ∧ m_Mo_givesTugs_64 σ0 τ0 z0 z1 σ9 τ9 < m_Mo_givesTugs_4 σ0 τ0 x1 x2 σ τ) (Q_Mo_givesTugs σ0 τ0) := by
  obtain ⟨rfl, hP, hc, i, hi, rfl, rfl, h0⟩ := h
  obtain ⟨hd, hA⟩ := id hP
  have hn := hd.nJl
  have hnp := hd.nPl
  have evm := vm_44 hc
  have e8 : σ 29 10 = nI (nJ (vm σ0)) := by rw [hc 29 (by decide)]; exact vm_8 hd
  have hci : (nI i).toNatClampNeg = i := nI_clamp (by omega)
  have hlt := dp_mk_lt (gtm σ0) i
  have hp7 : 2 ^ nJ (vm σ0) ≤ 2 ^ 7 := Nat.pow_le_pow_right (by decide) hn.1
  have hm : ∀ (u v y : Int32) (s9 s8 : MI), i < nJ (vm σ0) → y = nI i + 1 → m_Mo_givesTugs_4 σ0 τ0 u y s9 τ0 < m_Mo_givesTugs_4 σ0 τ0 v (nI i) s8 τ0 := by
    intro u v y s9 s8 hl hy
    unfold m_Mo_givesTugs_4
    rw [hy, nI_1, hci, nI_clamp (by omega)]
    omega
  unfold s_Mo_givesTugs_4
  rw [e8, nI_leI (by omega) (by omega), hci]
  refine ⟨fun c => ?_, fun c => ⟨vp_in_nI (by omega) (by decide), fun s18 h18 => ⟨vp_in_nI (by omega) (by decide), ?_⟩⟩⟩
  · have e : i = nJ (vm σ0) := by omega
    subst e
    have hM := dp_mk_lt (gtm σ0) (nJ (vm σ0))
    refine ⟨⟨by rw [evm]; exact hd, vp_in_nI (by omega) (by decide), Or.inl rfl⟩, fun r s t hq => ?_⟩
    obtain ⟨rfl, rfl, hq, -⟩ := hq
    rw [evm, nI_clamp (by omega)] at hq
    obtain ⟨w1, w2, w3, w4⟩ := nxp_spec (o := od (vm σ0) (nJ (vm σ0))) (S := dp_mk (gtm σ0) (nJ (vm σ0))) (n := nJ (vm σ0)) (k := 0) (Nat.zero_le _)
    refine ⟨⟨rfl, hP, hc, rfl, 0, Nat.zero_le _, hq rfl, fun j hj => ?_, fun j hj => ?_⟩, ?_⟩
    · unfold tgm; rw [h0 j hj]; rfl
    · unfold tgm; rw [h0 j hj]; rfl
    · unfold m_Mo_givesTugs_4 m_Mo_givesTugs_64
      rw [hq rfl, mx_pj (od_ok _ _) hn.1 w2, hci]
      omega
  · have hlt2 : i < nJ (vm σ0) := by omega
    have e29 : s18 29 1 = nI (nP (vm σ0)) := by rw [h18, st2_ne (by decide), hc 29 (by decide)]; exact vm_1 hd
    have e43 : s18 43 i = σ0 43 i := by rw [h18, st2_ne (by decide), hc 43 (by decide)]
    have e38 : s18 38 i = σ0 38 i := by rw [h18, st2_ne (by decide), hc 38 (by decide)]
    obtain ⟨a1, a2⟩ := hA i hlt2
    have hbit : gtm σ0 i = true ↔ (av σ0 43 i < nP (vm σ0) ∧ ¬ (σ0 38 i) ≤ 0) := by
      unfold gtm agm nb
      rw [z_le, zc_0]
      have : vm σ0 10 i = (σ0 38 i).toInt := rfl
      rw [decide_eq_true_eq, this]
      by_cases z : av σ0 43 i < nP (vm σ0)
      · rw [if_pos z]; omega
      · rw [if_neg z]; omega
    have estep : dp_mk (gtm σ0) (i + 1) = dp_mk (gtm σ0) i + (if gtm σ0 i = true then 2 ^ i else 0) := rfl
    have hI : ∀ (u y : Int32), u = nI (dp_mk (gtm σ0) (i + 1)) → y = nI i + 1 → I_Mo_givesTugs_4 σ0 τ0 u y s18 τ0 := by
      intro u y hu hy
      refine ⟨rfl, hP, fun c hcc => by rw [h18, st2_ne hcc]; exact hc c hcc, i + 1, by omega, by rw [hy, nI_1], hu, fun j hj => ?_⟩
      rw [h18, st2_at]
      by_cases z : j = i
      · rw [if_pos ⟨rfl, z⟩]
      · rw [if_neg (fun q => z q.2)]; exact h0 j (by omega)
    rw [e29, e43, a1, nI_leI (by omega) (by omega), e38]
    refine ⟨fun c2 y50 h50 y51 h51 => ⟨hI _ _ ?_ h51, hm _ _ _ _ _ hlt2 h51⟩, fun c2 => ⟨vp_in_nI (by omega) (by decide), fun c3 y50 h50 y51 h51 => ⟨hI _ _ ?_ h51, hm _ _ _ _ _ hlt2 h51⟩, fun c3 y50 h50 y51 h51 => ⟨hI _ _ ?_ h51, hm _ _ _ _ _ hlt2 h51⟩⟩⟩
    · rw [h50, or_0, estep, if_neg (fun z => by have := (hbit.mp z).1; omega)]; rfl
    · rw [h50, or_0, estep, if_neg (fun z => (hbit.mp z).2 c3)]; rfl
    · rw [h50, estep, if_pos (hbit.mpr ⟨by omega, c3⟩), zb_one (by omega), zb_or, or_pow hlt]
theorem v_Mo_givesTugs_64 (σ0 : MI) (τ0 : ML) (x1 : Int32) (x2 : Int32) (σ : MI) (τ : ML) (h : I_Mo_givesTugs_64 σ0 τ0 x1 x2 σ τ) : s_Mo_givesTugs_64 P_Mo_next Q_Mo_next P_Mo_best Q_Mo_best σ τ x1 x2 (fun z0 z1 σ9 τ9 => I_Mo_givesTugs_4 σ0 τ0 z0 z1 σ9 τ9 ∧ m_Mo_givesTugs_4 σ0 τ0 z0 z1 σ9 τ9 < m_Mo_givesTugs_64 σ0 τ0 x1 x2 σ τ) (fun z0 z1 σ9 τ9 => I_Mo_givesTugs_64 σ0 τ0 z0 z1 σ9 τ9 ∧ m_Mo_givesTugs_64 σ0 τ0 z0 z1 σ9 τ9 < m_Mo_givesTugs_64 σ0 τ0 x1 x2 σ τ) (Q_Mo_givesTugs σ0 τ0) := by
  obtain ⟨rfl, hP, hc, rfl, k, hk, rfl, h44, htg⟩ := h
  obtain ⟨hd, hA⟩ := id hP
  have hn := hd.nJl
  have hnp := hd.nPl
  have hnt := hd.nTl
  have evm := vm_44 hc
  have hM := dp_mk_lt (gtm σ0) (nJ (vm σ0))
  have hp7 : 2 ^ nJ (vm σ0) ≤ 2 ^ 7 := Nat.pow_le_pow_right (by decide) hn.1
  have hp64 : 2 ^ nT (vm σ0) ≤ 2 ^ 6 := Nat.pow_le_pow_right (by decide) hnt.1
  have ho := od_ok (vm σ0) (nJ (vm σ0))
  have hbits : ∀ i, i < nJ (vm σ0) → ((dp_mk (gtm σ0) (nJ (vm σ0))).testBit (od (vm σ0) (nJ (vm σ0)) i) = true ↔ (agm σ0 (od (vm σ0) (nJ (vm σ0)) i) ≠ 4 ∧ 0 < vm σ0 10 (od (vm σ0) (nJ (vm σ0)) i))) := by
    intro i hi
    rw [dp_mk_bit]
    have := ho.1 i hi
    unfold gtm
    simp [this]
  obtain ⟨n1, n2, n3, n4⟩ := nxp_spec (o := od (vm σ0) (nJ (vm σ0))) (S := dp_mk (gtm σ0) (nJ (vm σ0))) hk
  have htn := tgs_skip htg _ n1 (fun i h1 h2 z => by
    have q := n3 i h1 h2
    rw [(hbits i (by omega)).mpr z] at q
    cases q)
  unfold s_Mo_givesTugs_64
  rw [pj_neg (fun i hi => by have := ho.1 i hi; omega)]
  refine ⟨fun c => ⟨rfl, hc, h44, ?_⟩, fun c => ?_⟩
  · rw [show nxp (od (vm σ0) (nJ (vm σ0))) (dp_mk (gtm σ0) (nJ (vm σ0))) (nJ (vm σ0)) k = nJ (vm σ0) by omega] at htn
    exact htn
  · have hlt : nxp (od (vm σ0) (nJ (vm σ0))) (dp_mk (gtm σ0) (nJ (vm σ0))) (nJ (vm σ0)) k < nJ (vm σ0) := by omega
    generalize nxp (od (vm σ0) (nJ (vm σ0))) (dp_mk (gtm σ0) (nJ (vm σ0))) (nJ (vm σ0)) k = kk at *
    have hcond := (hbits kk hlt).mp (n4 hlt)
    have ej : pj (od (vm σ0) (nJ (vm σ0))) (nJ (vm σ0)) kk = nI (od (vm σ0) (nJ (vm σ0)) kk) := if_pos hlt
    have hj := ho.1 kk hlt
    have hmm : m_Mo_givesTugs_64 σ0 τ0 (nI (dp_mk (gtm σ0) (nJ (vm σ0)))) (pj (od (vm σ0) (nJ (vm σ0))) (nJ (vm σ0)) kk) σ τ0 = nJ (vm σ0) - kk := mx_pj ho hn.1 (by omega)
    rw [ej] at hmm ⊢
    have htl := tgs_lt _ _ htn
    refine ⟨⟨by rw [evm]; exact hd, vp_in_nI (by omega) (by decide), fun j hjn => ?_⟩, fun r75 s75 t75 hq => ?_⟩
    · rw [evm] at hjn
      rw [h44 j hjn]
      exact vp_in_nI (by have := htl j hjn; omega) (by decide)
    · obtain ⟨rfl, rfl, f, hbs, rfl⟩ := hq
      rw [evm, nI_clamp (by omega)] at hbs
      have hf64 : f < 64 := by
        rcases bsf_lt _ _ hbs with z | z <;> omega
      rw [nI_clamp (by omega)]
      refine ⟨vp_in_nI (by omega) (by decide), fun s78 h78 => ?_⟩
      have hc78 : ∀ c, c ≠ 44 → s78 c = σ0 c := fun c hcc => by rw [h78, st2_ne hcc]; exact hc c hcc
      have evm78 := vm_44 hc78
      refine ⟨⟨by rw [evm78]; exact hd, vp_in_nI (by omega) (by decide), Or.inr (by rw [evm78]; exact vp_in_nI hj (by omega))⟩, fun r s t hq => ?_⟩
      obtain ⟨rfl, rfl, -, hq⟩ := hq
      rw [evm78, nI_clamp (by omega)] at hq
      have hr := hq kk hlt rfl
      obtain ⟨w1, w2, w3, w4⟩ := nxp_spec (o := od (vm σ0) (nJ (vm σ0))) (S := dp_mk (gtm σ0) (nJ (vm σ0))) (n := nJ (vm σ0)) (k := kk + 1) (by omega)
      have ht78 : ∀ j, tgm s78 j = if j = od (vm σ0) (nJ (vm σ0)) kk then f else tgm σ j := by
        intro j
        unfold tgm
        rw [h78, st2_at]
        by_cases z : j = od (vm σ0) (nJ (vm σ0)) kk
        · rw [if_pos ⟨rfl, z⟩, if_pos z, nI_clamp (by omega)]
        · rw [if_neg (fun q => z q.2), if_neg z]
      refine ⟨⟨rfl, hP, hc78, rfl, kk + 1, by omega, hr, fun j hjn => ?_, ?_⟩, ?_⟩
      · rw [ht78, h78, st2_at]
        by_cases z : j = od (vm σ0) (nJ (vm σ0)) kk
        · rw [if_pos ⟨rfl, z⟩, if_pos z]
        · rw [if_neg (fun q => z q.2), if_neg z]; exact h44 j hjn
      · refine ⟨tgm σ, htn, Or.inl ⟨hcond.1, hcond.2, fun j _ hne => by rw [ht78, if_neg hne], ?_⟩⟩
        rw [ht78, if_pos rfl]
        exact hbs
      · rw [hmm]
        unfold m_Mo_givesTugs_64
        rw [hr, mx_pj ho hn.1 w2]
        omega
theorem c_Mo_givesTugs (l : Launch) (D : va_G) (ad : Nat → Nat) (ci cl : ClassId) : ∀ (sz : Nat) (σ0 : MI) (τ0 : ML), P_Mo_givesTugs σ0 τ0 → gMv l D (xw ad ci cl) (xt ci cl) (xa ad) y_Mo_givesTugs w_Mo_givesTugs rm_Mo_givesTugs [.ref (ad 29)] sz σ0 τ0 (Q_Mo_givesTugs σ0 τ0) :=
  k_Mo_givesTugs l D ad ci cl P_Mo_givesTugs Q_Mo_givesTugs P_Mo_next Q_Mo_next P_Mo_best Q_Mo_best (c_Mo_next l D ad ci cl) (c_Mo_best l D ad ci cl) I_Mo_givesTugs_4 m_Mo_givesTugs_4 I_Mo_givesTugs_64 m_Mo_givesTugs_64 v_Mo_givesTugs_0 v_Mo_givesTugs_4 v_Mo_givesTugs_64
