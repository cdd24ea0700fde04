def lt2 (d : Dt) (a2 : Int32) (c : Nat) : Prop := a2.toInt < 0 ∨ klt d a2.toNatClampNeg c
def pj (o : Nat → Nat) (n k : Nat) : Int32 := if k < n then nI (o k) else -1
def P_Mo_next (σ : MI) (τ : ML) (a1 a2 : Int32) : Prop := Vd (vm σ) ∧ vp_in a1 128 ∧ (a2 = -1 ∨ vp_in a2 (nJ (vm σ)))
def Q_Mo_next (σ : MI) (τ : ML) (a1 a2 r : Int32) (σ' : MI) (τ' : ML) : Prop :=
  σ = σ' ∧ τ = τ' ∧ (a2 = -1 → r = pj (od (vm σ) (nJ (vm σ))) (nJ (vm σ)) (nxp (od (vm σ) (nJ (vm σ))) a1.toNatClampNeg (nJ (vm σ)) 0)) ∧
  ∀ k, k < nJ (vm σ) → a2 = nI (od (vm σ) (nJ (vm σ)) k) → r = pj (od (vm σ) (nJ (vm σ))) (nJ (vm σ)) (nxp (od (vm σ) (nJ (vm σ))) a1.toNatClampNeg (nJ (vm σ)) (k + 1))
def fnd (d : Dt) (S : Nat) (a2 : Int32) (i : Nat) (x3 : Int32) : Prop :=
  (x3 = -1 ∧ ∀ c, c < i → S.testBit c = true → ¬ lt2 d a2 c) ∨ ∃ f, f < i ∧ x3 = nI f ∧ S.testBit f = true ∧ lt2 d a2 f ∧ ∀ c, c < i → S.testBit c = true → lt2 d a2 c → c = f ∨ klt d f c
def I_Mo_next_5 (σ0 : MI) (τ0 : ML) (a1 a2 x1 x2 x3 x4 : Int32) (σ : MI) (τ : ML) : Prop :=
  σ0 = σ ∧ τ0 = τ ∧ a1 = x1 ∧ a2 = x2 ∧ P_Mo_next σ0 τ0 a1 a2 ∧ ∃ i, i ≤ nJ (vm σ0) ∧ x4 = nI i ∧ fnd (vm σ0) a1.toNatClampNeg a2 i x3
def m_Mo_next_5 (σ0 : MI) (τ0 : ML) (a1 a2 x1 x2 x3 x4 : Int32) (σ : MI) (τ : ML) : Nat := 100 - x4.toNatClampNeg
theorem fnd_end {d : Dt} {S n : Nat} {a2 r : Int32} (h : fnd d S a2 n r) (o : Nat → Nat) (ho : IsOrd d n o) (k0 : Nat) (hk0 : k0 ≤ n) (hl : ∀ l, l < n → (lt2 d a2 (o l) ↔ k0 ≤ l)) : r = pj o n (nxp o S n k0) := by
  rcases h with ⟨rfl, hall⟩ | ⟨f, hf, rfl, hS, hlt, hall⟩
  · have : nxp o S n k0 = n := nxp_uniq hk0 (Nat.le_refl n) (fun j h1 h2 => by
      have hj := ho.1 j h2
      cases hb : S.testBit (o j)
      · rfl
      · exact absurd ((hl j h2).mpr h1) (hall (o j) hj hb)) (fun z => absurd z (Nat.lt_irrefl n))
    rw [this]
    unfold pj
    rw [if_neg (Nat.lt_irrefl n)]
  · obtain ⟨l, hln, rfl⟩ := ho.2.2 f hf
    have hkl := (hl l hln).mp hlt
    have : nxp o S n k0 = l := nxp_uniq hkl (by omega) (fun j h1 h2 => by
      have hj := ho.1 j (by omega)
      cases hb : S.testBit (o j)
      · rfl
      · rcases hall (o j) hj hb ((hl j (by omega)).mpr h1) with z | z
        · have := ord_inj ho (by omega) hln z
          omega
        · have := (ord_lt ho hln (by omega)).mp z
          omega) (fun _ => hS)
    rw [this]
    unfold pj
    rw [if_pos hln]
theorem v_Mo_next_0 (σ0 : MI) (τ0 : ML) (a1 : Int32) (a2 : Int32) (h : P_Mo_next σ0 τ0 a1 a2) : s_Mo_next_0 σ0 τ0 a1 a2 (fun z0 z1 z2 z3 σ9 τ9 => I_Mo_next_5 σ0 τ0 a1 a2 z0 z1 z2 z3 σ9 τ9) (Q_Mo_next σ0 τ0 a1 a2) := by
  unfold s_Mo_next_0
  intro y hy
  exact ⟨rfl, rfl, rfl, rfl, h, 0, Nat.zero_le _, rfl, Or.inl ⟨hy, fun c hc => absurd hc (Nat.not_lt_zero c)⟩⟩
theorem v_Mo_next_5 (σ0 : MI) (τ0 : ML) (a1 : Int32) (a2 : Int32) (x1 : Int32) (x2 : Int32) (x3 : Int32) (x4 : Int32) (σ : MI) (τ : ML) (h : I_Mo_next_5 σ0 τ0 a1 a2 x1 x2 x3 x4 σ τ) : s_Mo_next_5 σ τ x1 x2 x3 x4 (fun z0 z1 z2 z3 σ9 τ9 => I_Mo_next_5 σ0 τ0 a1 a2 z0 z1 z2 z3 σ9 τ9 ∧ m_Mo_next_5 σ0 τ0 a1 a2 z0 z1 z2 z3 σ9 τ9 < m_Mo_next_5 σ0 τ0 a1 a2 x1 x2 x3 x4 σ τ) (Q_Mo_next σ0 τ0 a1 a2) := by
  obtain ⟨rfl, rfl, rfl, rfl, hP, i, hi, rfl, hf⟩ := h
  obtain ⟨hd, h1, h2⟩ := id hP
  obtain ⟨S, hS, rfl⟩ := vp_in_of h1 (by decide)
  have hn := hd.nJl
  have e8 := vm_8 hd
  have hcS : (nI S).toNatClampNeg = S := nI_clamp (by omega)
  rw [hcS] at hf
  have hci : (nI i).toNatClampNeg = i := nI_clamp (by omega)
  have hm : ∀ (u v y : Int32), i < nJ (vm σ0) → y = nI i + 1 → m_Mo_next_5 σ0 τ0 (nI S) a2 (nI S) a2 u y σ0 τ0 < m_Mo_next_5 σ0 τ0 (nI S) a2 (nI S) a2 v (nI i) σ0 τ0 := by
    intro u v y hl hy
    unfold m_Mo_next_5
    rw [hy, nI_1, nI_clamp (by omega), hci]
    omega
  have hI : ∀ (u y : Int32), i < nJ (vm σ0) → y = nI i + 1 → fnd (vm σ0) S a2 (i + 1) u → I_Mo_next_5 σ0 τ0 (nI S) a2 (nI S) a2 u y σ0 τ0 := by
    intro u y hl hy hf
    exact ⟨rfl, rfl, rfl, rfl, hP, i + 1, by omega, by rw [hy, nI_1], by rw [hcS]; exact hf⟩
  have hskip : ¬ (S.testBit i = true ∧ lt2 (vm σ0) a2 i) → fnd (vm σ0) S a2 (i + 1) x3 := by
    intro hno
    rcases hf with ⟨e, hall⟩ | ⟨f, hfi, e, hb, hl, hall⟩
    · refine Or.inl ⟨e, fun c hc hb hl => ?_⟩
      by_cases z : c = i
      · subst z; exact hno ⟨hb, hl⟩
      · exact hall c (by omega) hb hl
    · refine Or.inr ⟨f, by omega, e, hb, hl, fun c hc hb hl => ?_⟩
      by_cases z : c = i
      · subst z; exact absurd ⟨hb, hl⟩ hno
      · exact hall c (by omega) hb hl
  unfold s_Mo_next_5
  rw [e8, nI_leI (by omega) (by omega)]
  refine ⟨fun c => ?_, fun c => ?_⟩
  · have e : i = nJ (vm σ0) := by omega
    subst e
    refine ⟨rfl, rfl, fun e => ?_, fun k hk e => ?_⟩
    · rw [hcS]
      refine fnd_end hf _ (od_ok _ _) 0 (Nat.zero_le _) (fun l hl => ⟨fun _ => Nat.zero_le l, fun _ => Or.inl ?_⟩)
      rw [e]; decide
    · rw [hcS]
      have ho := (od_ok (vm σ0) (nJ (vm σ0))).1 k hk
      refine fnd_end hf _ (od_ok _ _) (k + 1) (by omega) (fun l hl => ?_)
      unfold lt2
      rw [e, nI_clamp (by omega), z_nI (by omega), ord_lt (od_ok _ _) hk hl]
      omega
  · have hlt : i < nJ (vm σ0) := by omega
    have hi7 : vp_in (nI i) 7 := vp_in_nI (by omega) (by decide)
    have h93 : ∀ (x5 x6 : Int32), (x3.toInt < 0 ∨ x5 = x3) → (x6 = 0 → ¬ lt2 (vm σ0) a2 i) → (x6 ≠ 0 → lt2 (vm σ0) a2 i) → s_Mo_next_93 σ0 τ0 (nI S) a2 x3 (nI i) x5 x6 (fun z0 z1 z2 z3 σ9 τ9 => I_Mo_next_5 σ0 τ0 (nI S) a2 z0 z1 z2 z3 σ9 τ9 ∧ m_Mo_next_5 σ0 τ0 (nI S) a2 z0 z1 z2 z3 σ9 τ9 < m_Mo_next_5 σ0 τ0 (nI S) a2 (nI S) a2 x3 (nI i) σ0 τ0) (Q_Mo_next σ0 τ0 (nI S) a2) := by
      intro x5 x6 h5 h60 h61
      unfold s_Mo_next_93
      rw [bit_1 (by omega) (by omega)]
      refine ⟨fun c1 y hy => ⟨hI _ _ hlt hy (hskip (fun z => c1 z.1)), hm _ _ _ hlt hy⟩, fun c1 => ⟨fun c2 y hy => ⟨hI _ _ hlt hy (hskip (fun z => h60 c2 z.2)), hm _ _ _ hlt hy⟩, fun c2 => ⟨fun c3 y hy => ⟨hI _ _ hlt hy ?_, hm _ _ _ hlt hy⟩, fun c3 => ?_⟩⟩⟩
      · rcases hf with ⟨e, hall⟩ | ⟨f, hfi, e, hb, hl, hall⟩
        · refine Or.inr ⟨i, by omega, rfl, c1, h61 c2, fun c hc hb hl => ?_⟩
          by_cases z : c = i
          · exact Or.inl z
          · exact absurd hl (hall c (by omega) hb)
        · rw [e, z_lt, z_nI (by omega), zc_0] at c3
          omega
      · rcases hf with ⟨e, hall⟩ | ⟨f, hfi, e, hb, hl, hall⟩
        · rw [e] at c3; exact absurd (by decide) c3
        · have ex5 : x5 = nI f := by
            rcases h5 with z | z
            · rw [e, z_nI (by omega)] at z; omega
            · rw [z, e]
          have hcf : (nI f).toNatClampNeg = f := nI_clamp (by omega)
          rw [ex5, hcf, hci, z_le]
          have hkl : ∀ c, klt (vm σ0) f c ↔ ((σ0 39 f).toInt < (σ0 39 c).toInt ∨ ((σ0 39 f).toInt = (σ0 39 c).toInt ∧ f < c)) := fun c => Iff.rfl
          refine ⟨hi7, vp_in_nI (by omega) (by decide), fun c4 y hy => ⟨hI _ _ hlt hy ?_, hm _ _ _ hlt hy⟩, fun c4 y hy => ⟨hI _ _ hlt hy ?_, hm _ _ _ hlt hy⟩⟩
          · refine Or.inr ⟨f, by omega, e, hb, hl, fun c hc hb2 hl2 => ?_⟩
            by_cases z : c = i
            · subst z
              right
              rw [hkl]
              omega
            · exact hall c (by omega) hb2 hl2
          · refine Or.inr ⟨i, by omega, rfl, c1, h61 c2, fun c hc hb2 hl2 => ?_⟩
            by_cases z : c = i
            · exact Or.inl z
            · right
              have hi39 : ∀ c, klt (vm σ0) i c ↔ ((σ0 39 i).toInt < (σ0 39 c).toInt ∨ ((σ0 39 i).toInt = (σ0 39 c).toInt ∧ i < c)) := fun c => Iff.rfl
              rw [hi39]
              rcases hall c (by omega) hb2 hl2 with q | q
              · subst q; omega
              · rw [hkl] at q; omega
    have h26 : ∀ (x5 : Int32), (x3.toInt < 0 ∨ x5 = x3) → s_Mo_next_26 σ0 τ0 (nI S) a2 x3 (nI i) x5 (fun z0 z1 z2 z3 σ9 τ9 => I_Mo_next_5 σ0 τ0 (nI S) a2 z0 z1 z2 z3 σ9 τ9 ∧ m_Mo_next_5 σ0 τ0 (nI S) a2 z0 z1 z2 z3 σ9 τ9 < m_Mo_next_5 σ0 τ0 (nI S) a2 (nI S) a2 x3 (nI i) σ0 τ0) (Q_Mo_next σ0 τ0 (nI S) a2) := by
      intro x5 h5
      unfold s_Mo_next_26
      refine ⟨fun c1 => h93 x5 1 h5 (fun z => absurd z (by decide)) (fun _ => Or.inl (by rw [z_lt, zc_0] at c1; exact c1)), fun c1 => ?_⟩
      rcases h2 with rfl | h2
      · exact absurd (by decide) c1
      obtain ⟨b, hb, rfl⟩ := vp_in_of h2 (by omega)
      have hcb : (nI b).toNatClampNeg = b := nI_clamp (by omega)
      have hb7 : vp_in (nI b) 7 := vp_in_nI (by omega) (by decide)
      have hlt2 : lt2 (vm σ0) (nI b) i ↔ ((σ0 39 b).toInt < (σ0 39 i).toInt ∨ ((σ0 39 b).toInt = (σ0 39 i).toInt ∧ b < i)) := by
        unfold lt2
        rw [hcb, z_nI (by omega)]
        constructor
        · rintro (z | z)
          · omega
          · exact z
        · exact fun z => Or.inr z
      have hb0 : (0 : Int32) ≤ nI b := by rw [z_le, zc_0, z_nI (by omega)]; omega
      unfold s_Mo_next_55
      unfold s_Mo_next_80
      rw [hcb, hci]
      refine ⟨hi7, fun c2 => ⟨hb7, fun c3 => h93 x5 1 h5 (fun z => absurd z (by decide)) (fun _ => hlt2.mpr (Or.inl (by rw [z_lt] at c3; exact c3))), fun c3 => ⟨hi7, fun c4 => ⟨hb7, fun c5 => h93 x5 0 h5 (fun _ z => ?_) (fun z => absurd rfl z), fun c5 => ⟨fun c6 => h93 x5 0 h5 (fun _ z => ?_) (fun z => absurd rfl z), fun c6 => h93 x5 1 h5 (fun z => absurd z (by decide)) (fun _ => hlt2.mpr (Or.inr ?_))⟩⟩, fun c4 => absurd hb0 c4⟩⟩, fun c2 => absurd hb0 c2⟩
      · rw [hlt2] at z
        rw [z_lt] at c3
        rw [z_eq] at c5
        omega
      · rw [hlt2] at z
        rw [z_eq] at c5
        rw [nI_leI (by omega) (by omega)] at c6
        omega
      · rw [z_eq] at c5
        rw [nI_leI (by omega) (by omega)] at c6
        omega
    refine ⟨fun c1 => h26 x3 (Or.inr rfl), fun c1 => h26 (nI i) (Or.inl ?_)⟩
    rw [z_le, zc_0] at c1
    omega
theorem c_Mo_next (l : Launch) (D : va_G) (ad : Nat → Nat) (ci cl : ClassId) : ∀ (sz : Nat) (σ0 : MI) (τ0 : ML) (a1 : Int32) (a2 : Int32), P_Mo_next σ0 τ0 a1 a2 → gMi l D (xw ad ci cl) (xt ci cl) (xa ad) y_Mo_next w_Mo_next rm_Mo_next [.ref (ad 29), .int a1, .int a2] sz σ0 τ0 (Q_Mo_next σ0 τ0 a1 a2) :=
  k_Mo_next l D ad ci cl P_Mo_next Q_Mo_next I_Mo_next_5 m_Mo_next_5 v_Mo_next_0 v_Mo_next_5
def P_Mo_asks (σ : MI) (τ : ML) : Prop := Vd (vm σ)
def Q_Mo_asks (σ : MI) (τ : ML) (σ' : MI) (τ' : ML) : Prop := τ = τ' ∧ (∀ c, c ≠ 29 → c ≠ 35 → σ' c = σ c) ∧ (∀ i, i ≠ 21 → σ' 29 i = σ 29 i) ∧ σ' 29 21 = nI (barm (vm σ)) ∧ σ' 35 = bump (σ 35) (vm σ) (nP (vm σ))
def AsI (σ0 : MI) (σ : MI) (i : Nat) : Prop := (∀ c, c ≠ 29 → c ≠ 35 → σ c = σ0 c) ∧ (∀ i, i ≠ 21 → σ 29 i = σ0 29 i) ∧ σ 29 21 = nI (dp_mk (flp (vm σ0)) i) ∧ σ 35 = bump (σ0 35) (vm σ0) i
def I_Mo_asks_7 (σ0 : MI) (τ0 : ML) (x1 : Int32) (σ : MI) (τ : ML) : Prop :=
  Vd (vm σ0) ∧ τ0 = τ ∧ ∃ i, i ≤ nP (vm σ0) ∧ x1 = nI i ∧ AsI σ0 σ i
def I_Mo_asks_19 (σ0 : MI) (τ0 : ML) (x1 x2 x3 : Int32) (σ : MI) (τ : ML) : Prop :=
  Vd (vm σ0) ∧ τ0 = τ ∧ ∃ i j, i < nP (vm σ0) ∧ x1 = nI i ∧ AsI σ0 σ i ∧ j ≤ nJ (vm σ0) ∧ x3 = nI j ∧ rb (failb (vm σ0) (vm σ0 6 i) j = true) x2
def m_Mo_asks_7 (σ0 : MI) (τ0 : ML) (x1 : Int32) (σ : MI) (τ : ML) : Nat := (100 - x1.toNatClampNeg) * 100
def m_Mo_asks_19 (σ0 : MI) (τ0 : ML) (x1 x2 x3 : Int32) (σ : MI) (τ : ML) : Nat := (99 - x1.toNatClampNeg) * 100 + 50 - x3.toNatClampNeg
theorem v_Mo_asks_0 (σ0 : MI) (τ0 : ML) (h : P_Mo_asks σ0 τ0) : s_Mo_asks_0 σ0 τ0 (fun z0 σ9 τ9 => I_Mo_asks_7 σ0 τ0 z0 σ9 τ9) (fun z0 z1 z2 σ9 τ9 => I_Mo_asks_19 σ0 τ0 z0 z1 z2 σ9 τ9) (Q_Mo_asks σ0 τ0) := by
  unfold s_Mo_asks_0
  intro s hs
  refine ⟨h, rfl, 0, Nat.zero_le _, rfl, fun c h1 _ => by rw [hs, st2_ne h1], fun i hi => by rw [hs, st2_at, if_neg (by omega)], by rw [hs, st2_at, if_pos ⟨rfl, rfl⟩]; rfl, ?_⟩
  rw [hs, st2_ne (by decide)]
  funext p
  unfold bump
  simp
theorem v_Mo_asks_7 (σ0 : MI) (τ0 : ML) (x1 : Int32) (σ : MI) (τ : ML) (h : I_Mo_asks_7 σ0 τ0 x1 σ τ) : s_Mo_asks_7 σ τ x1 (fun z0 σ9 τ9 => I_Mo_asks_7 σ0 τ0 z0 σ9 τ9 ∧ m_Mo_asks_7 σ0 τ0 z0 σ9 τ9 < m_Mo_asks_7 σ0 τ0 x1 σ τ) (fun z0 z1 z2 σ9 τ9 => I_Mo_asks_19 σ0 τ0 z0 z1 z2 σ9 τ9 ∧ m_Mo_asks_19 σ0 τ0 z0 z1 z2 σ9 τ9 < m_Mo_asks_7 σ0 τ0 x1 σ τ) (Q_Mo_asks σ0 τ0) := by
  obtain ⟨hd, rfl, i, hi, rfl, hA⟩ := h
  obtain ⟨a1, a2, a3, a4⟩ := id hA
  have hnp := hd.nPl
  have e1 := vm_1 hd
  unfold s_Mo_asks_7
  rw [a2 1 (by decide), e1, nI_leI (by omega) (by omega)]
  refine ⟨fun c => ?_, fun c => ⟨⟨hd, rfl, i, 0, by omega, rfl, hA, Nat.zero_le _, rfl, rb_f (by simp [failb])⟩, ?_⟩⟩
  · have e : i = nP (vm σ0) := by omega
    subst e
    exact ⟨rfl, a1, a2, a3, a4⟩
  · unfold m_Mo_asks_7 m_Mo_asks_19
    rw [nI_clamp (by omega)]
    have : (0 : Int32).toNatClampNeg = 0 := rfl
    rw [this]
    omega
theorem v_Mo_asks_19 (σ0 : MI) (τ0 : ML) (x1 : Int32) (x2 : Int32) (x3 : Int32) (σ : MI) (τ : ML) (h : I_Mo_asks_19 σ0 τ0 x1 x2 x3 σ τ) : s_Mo_asks_19 σ τ x1 x2 x3 (fun z0 σ9 τ9 => I_Mo_asks_7 σ0 τ0 z0 σ9 τ9 ∧ m_Mo_asks_7 σ0 τ0 z0 σ9 τ9 < m_Mo_asks_19 σ0 τ0 x1 x2 x3 σ τ) (fun z0 z1 z2 σ9 τ9 => I_Mo_asks_19 σ0 τ0 z0 z1 z2 σ9 τ9 ∧ m_Mo_asks_19 σ0 τ0 z0 z1 z2 σ9 τ9 < m_Mo_asks_19 σ0 τ0 x1 x2 x3 σ τ) (Q_Mo_asks σ0 τ0) := by
  obtain ⟨hd, rfl, i, j, hi, rfl, hA, hj, rfl, hf⟩ := h
  obtain ⟨a1, a2, a3, a4⟩ := id hA
  have hnp := hd.nPl
  have hn := hd.nJl
  have e8 := vm_8 hd
  have hci : (nI i).toNatClampNeg = i := nI_clamp (by omega)
  have hcj : (nI j).toNatClampNeg = j := nI_clamp (by omega)
  have hi4 : vp_in (nI i) 4 := vp_in_nI (by omega) (by decide)
  have hmk := dp_mk_lt (flp (vm σ0)) i
  have hp16 : 2 ^ i ≤ 2 ^ 4 := Nat.pow_le_pow_right (by decide) (by omega)
  have hm : ∀ (u v y : Int32), j < nJ (vm σ0) → y = nI j + 1 → m_Mo_asks_19 σ0 τ0 (nI i) u y σ τ0 < m_Mo_asks_19 σ0 τ0 (nI i) v (nI j) σ τ0 := by
    intro u v y hl hy
    unfold m_Mo_asks_19
    rw [hy, nI_1, hci, hcj, nI_clamp (n := j + 1) (by omega)]
    omega
  have hstep : ∀ (u y : Int32), j < nJ (vm σ0) → y = nI j + 1 → rb (failb (vm σ0) (vm σ0 6 i) (j + 1) = true) u → I_Mo_asks_19 σ0 τ0 (nI i) u y σ τ0 := fun u y hl hy hu => ⟨hd, rfl, i, j + 1, hi, rfl, hA, by omega, by rw [hy, nI_1], hu⟩
  have efb : failb (vm σ0) (vm σ0 6 i) (j + 1) = (failb (vm σ0) (vm σ0 6 i) j || (decide (vm σ0 6 i = 4) || (decide (vm σ0 6 i = 3) && decide (vm σ0 9 j = 5)))) := rfl
  have e6 : vm σ0 6 i = (σ0 34 i).toInt := rfl
  have e9 : vm σ0 9 j = (σ0 37 j).toInt := rfl
  unfold s_Mo_asks_19
  rw [a2 10 (by decide), e8, nI_leI (by omega) (by omega), hci, hcj, a1 34 (by decide) (by decide), a1 37 (by decide) (by decide)]
  refine ⟨fun c => ?_, fun c => ?_⟩
  · have e : j = nJ (vm σ0) := by omega
    subst e
    have hfl : rb (flp (vm σ0) i = true) x2 := hf
    have h91 : ∀ s90 : MI, (∀ c, c ≠ 35 → s90 c = σ c) → s90 35 = bump (σ0 35) (vm σ0) (i + 1) → s_Mo_asks_91 s90 τ0 (nI i) x2 (fun z0 σ9 τ9 => I_Mo_asks_7 σ0 τ0 z0 σ9 τ9 ∧ m_Mo_asks_7 σ0 τ0 z0 σ9 τ9 < m_Mo_asks_19 σ0 τ0 (nI i) x2 (nI (nJ (vm σ0))) σ τ0) (fun z0 z1 z2 σ9 τ9 => I_Mo_asks_19 σ0 τ0 z0 z1 z2 σ9 τ9 ∧ m_Mo_asks_19 σ0 τ0 z0 z1 z2 σ9 τ9 < m_Mo_asks_19 σ0 τ0 (nI i) x2 (nI (nJ (vm σ0))) σ τ0) (Q_Mo_asks σ0 τ0) := by
      intro s90 hs hb
      have hmm : ∀ (y : Int32) (s9 : MI), y = nI i + 1 → m_Mo_asks_7 σ0 τ0 y s9 τ0 < m_Mo_asks_19 σ0 τ0 (nI i) x2 (nI (nJ (vm σ0))) σ τ0 := by
        intro y s9 hy
        unfold m_Mo_asks_7 m_Mo_asks_19
        rw [hy, nI_1, nI_clamp (by omega), hci, nI_clamp (by omega)]
        omega
      unfold s_Mo_asks_91
      rw [hs 29 (by decide), a3]
      refine ⟨fun c2 s108 h108 y hy => ⟨⟨hd, rfl, i + 1, by omega, by rw [hy, nI_1], ?_, ?_, ?_, ?_⟩, hmm _ _ hy⟩, fun c2 s108 h108 y hy => ⟨⟨hd, rfl, i + 1, by omega, by rw [hy, nI_1], ?_, ?_, ?_, ?_⟩, hmm _ _ hy⟩⟩
      · intro c h1 h2; rw [h108, st2_ne h1, hs c h2]; exact a1 c h1 h2
      · intro k hk; rw [h108, st2_at, if_neg (by omega), hs 29 (by decide)]; exact a2 k hk
      · rw [h108, st2_at, if_pos ⟨rfl, rfl⟩, or_0]
        show _ = nI (dp_mk (flp (vm σ0)) i + (if flp (vm σ0) i then 2 ^ i else 0))
        rw [if_neg (rb_0 hfl c2)]
        rfl
      · rw [h108, st2_ne (by decide)]; exact hb
      · intro c h1 h2; rw [h108, st2_ne h1, hs c h2]; exact a1 c h1 h2
      · intro k hk; rw [h108, st2_at, if_neg (by omega), hs 29 (by decide)]; exact a2 k hk
      · rw [h108, st2_at, if_pos ⟨rfl, rfl⟩, zb_one (by omega), zb_or, or_pow hmk]
        show _ = nI (dp_mk (flp (vm σ0)) i + (if flp (vm σ0) i then 2 ^ i else 0))
        rw [if_pos (rb_1 hfl c2)]
      · rw [h108, st2_ne (by decide)]; exact hb
    have e35 : σ 35 i = σ0 35 i := by rw [a4]; unfold bump; simp
    refine ⟨hi4, fun c2 => ⟨hi4, fun s90 h90 => h91 s90 (fun c hc => by rw [h90, st2_ne hc]) ?_⟩, fun c2 => ⟨hi4, fun s90 h90 => h91 s90 (fun c hc => by rw [h90, st2_ne hc]) ?_⟩⟩
    · have hz : flp (vm σ0) i = false := by have := rb_0 hfl c2; simpa using this
      rw [← bump_skip _ _ _ hz, ← a4, h90]
      funext p
      rw [st2_at]
      by_cases z : p = i
      · subst z; rw [if_pos ⟨rfl, rfl⟩]; simp
      · rw [if_neg (fun q => z q.2)]
    · rw [h90, e35, ← bump_step _ _ _ (rb_1 hfl c2), ← a4]
      unfold st2
      rw [if_pos rfl]
  · have hlt : j < nJ (vm σ0) := by omega
    refine ⟨fun c2 y hy => ⟨hstep _ _ hlt hy (rb_t ?_), hm _ _ _ hlt hy⟩, fun c2 => ⟨hi4, fun c3 y hy => ⟨hstep _ _ hlt hy (rb_t ?_), hm _ _ _ hlt hy⟩, fun c3 => ⟨hi4, fun c4 y hy => ⟨hstep _ _ hlt hy (rb_f ?_), hm _ _ _ hlt hy⟩, fun c4 => ⟨vp_in_nI (by omega) (by decide), fun c5 y hy => ⟨hstep _ _ hlt hy (rb_f ?_), hm _ _ _ hlt hy⟩, fun c5 y hy => ⟨hstep _ _ hlt hy (rb_t ?_), hm _ _ _ hlt hy⟩⟩⟩⟩⟩
    · rw [efb, rb_1 hf c2]; rfl
    · rw [efb, e6, z_eq.mp c3]
      simp [zc_4]
    · have hz : failb (vm σ0) (vm σ0 6 i) j = false := by have := rb_0 hf c2; simpa using this
      rw [z_eq, zc_4] at c3
      rw [z_eq, zc_3] at c4
      rw [efb, hz, e6]
      simp [c3, c4]
    · have hz : failb (vm σ0) (vm σ0 6 i) j = false := by have := rb_0 hf c2; simpa using this
      rw [z_eq, zc_4] at c3
      rw [z_eq, zc_5] at c5
      rw [efb, hz, e6, e9]
      simp [c3, c5]
    · rw [z_eq, zc_3] at c4
      rw [z_eq, zc_5] at c5
      rw [efb, e6, e9]
      simp [c4, c5]
theorem c_Mo_asks (l : Launch) (D : va_G) (ad : Nat → Nat) (ci cl : ClassId) : ∀ (sz : Nat) (σ0 : MI) (τ0 : ML), P_Mo_asks σ0 τ0 → gMv l D (xw ad ci cl) (xt ci cl) (xa ad) y_Mo_asks w_Mo_asks rm_Mo_asks [.ref (ad 29)] sz σ0 τ0 (Q_Mo_asks σ0 τ0) :=
  k_Mo_asks l D ad ci cl P_Mo_asks Q_Mo_asks I_Mo_asks_7 m_Mo_asks_7 I_Mo_asks_19 m_Mo_asks_19 v_Mo_asks_0 v_Mo_asks_7 v_Mo_asks_19
