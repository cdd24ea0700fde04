def P_Mo_triedOf (σ : MI) (τ : ML) (a1 : Int32) : Prop := Vd (vm σ) ∧ AV σ 46 ∧ vp_in a1 4
def Q_Mo_triedOf (σ : MI) (τ : ML) (a1 r : Int32) (σ' : MI) (τ' : ML) : Prop := σ = σ' ∧ τ = τ' ∧ r = nI (dp_mk (fun j => av σ 46 j == a1.toNatClampNeg) (nJ (vm σ)))
def I_Mo_triedOf_4 (σ0 : MI) (τ0 : ML) (a1 x1 x2 x3 : Int32) (σ : MI) (τ : ML) : Prop :=
  σ0 = σ ∧ τ0 = τ ∧ a1 = x1 ∧ P_Mo_triedOf σ0 τ0 a1 ∧ ∃ i, i ≤ nJ (vm σ0) ∧ x3 = nI i ∧ x2 = nI (dp_mk (fun j => av σ0 46 j == a1.toNatClampNeg) i)
def m_Mo_triedOf_4 (σ0 : MI) (τ0 : ML) (a1 x1 x2 x3 : Int32) (σ : MI) (τ : ML) : Nat := 100 - x3.toNatClampNeg
theorem v_Mo_triedOf_0 (σ0 : MI) (τ0 : ML) (a1 : Int32) (h : P_Mo_triedOf σ0 τ0 a1) : s_Mo_triedOf_0 σ0 τ0 a1 (fun z0 z1 z2 σ9 τ9 => I_Mo_triedOf_4 σ0 τ0 a1 z0 z1 z2 σ9 τ9) (Q_Mo_triedOf σ0 τ0 a1) := by
  unfold s_Mo_triedOf_0
  exact ⟨rfl, rfl, rfl, h, 0, Nat.zero_le _, rfl, rfl⟩
theorem v_Mo_triedOf_4 (σ0 : MI) (τ0 : ML) (a1 : Int32) (x1 : Int32) (x2 : Int32) (x3 : Int32) (σ : MI) (τ : ML) (h : I_Mo_triedOf_4 σ0 τ0 a1 x1 x2 x3 σ τ) : s_Mo_triedOf_4 σ τ x1 x2 x3 (fun z0 z1 z2 σ9 τ9 => I_Mo_triedOf_4 σ0 τ0 a1 z0 z1 z2 σ9 τ9 ∧ m_Mo_triedOf_4 σ0 τ0 a1 z0 z1 z2 σ9 τ9 < m_Mo_triedOf_4 σ0 τ0 a1 x1 x2 x3 σ τ) (Q_Mo_triedOf σ0 τ0 a1) := by
  obtain ⟨rfl, rfl, rfl, hP, i, hi, rfl, rfl⟩ := h
  obtain ⟨hd, hA, h1⟩ := id hP
  obtain ⟨p, hp, rfl⟩ := vp_in_of h1 (by decide)
  have hcp : (nI p).toNatClampNeg = p := nI_clamp (by omega)
  have hn := hd.nJl
  have hnp := hd.nPl
  have e8 := vm_8 hd
  have hci : (nI i).toNatClampNeg = i := nI_clamp (by omega)
  have hlt := dp_mk_lt (fun j => av σ0 46 j == p) i
  have hm : ∀ (u v y : Int32), i < nJ (vm σ0) → y = nI i + 1 → m_Mo_triedOf_4 σ0 τ0 (nI p) (nI p) u y σ0 τ0 < m_Mo_triedOf_4 σ0 τ0 (nI p) (nI p) v (nI i) σ0 τ0 := by
    intro u v y hl hy
    unfold m_Mo_triedOf_4
    rw [hy, nI_1, hci, nI_clamp (by omega)]
    omega
  have estep : dp_mk (fun j => av σ0 46 j == p) (i + 1) = dp_mk (fun j => av σ0 46 j == p) i + (if (av σ0 46 i == p) = true then 2 ^ i else 0) := rfl
  unfold s_Mo_triedOf_4
  rw [e8, nI_leI (by omega) (by omega), hci, hcp]
  refine ⟨fun c => ⟨rfl, rfl, ?_⟩, fun c => ?_⟩
  · have e : i = nJ (vm σ0) := by omega
    rw [hcp, e]
  · have hlt2 : i < nJ (vm σ0) := by omega
    obtain ⟨e1, e2⟩ := hA i hlt2
    have heq : σ0 46 i = nI p ↔ av σ0 46 i = p := by rw [e1, nI_eq (by omega) (by omega)]
    rw [heq]
    refine ⟨vp_in_nI (by omega) (by decide), fun c2 y31 h31 y32 h32 => ⟨⟨rfl, rfl, rfl, hP, i + 1, by omega, by rw [h32, nI_1], ?_⟩, hm _ _ _ hlt2 h32⟩, fun c2 y31 h31 y32 h32 => ⟨⟨rfl, rfl, rfl, hP, i + 1, by omega, by rw [h32, nI_1], ?_⟩, hm _ _ _ hlt2 h32⟩⟩
    · rw [h31, or_0, hcp, estep, if_neg (by simpa using c2)]; rfl
    · rw [h31, hcp, estep, if_pos (by simpa using c2), zb_one (by omega), zb_or, or_pow hlt]
theorem c_Mo_triedOf (l : Launch) (D : va_G) (ad : Nat → Nat) (ci cl : ClassId) : ∀ (sz : Nat) (σ0 : MI) (τ0 : ML) (a1 : Int32), P_Mo_triedOf σ0 τ0 a1 → gMi l D (xw ad ci cl) (xt ci cl) (xa ad) y_Mo_triedOf w_Mo_triedOf rm_Mo_triedOf [.ref (ad 29), .int a1] sz σ0 τ0 (Q_Mo_triedOf σ0 τ0 a1) :=
  k_Mo_triedOf l D ad ci cl P_Mo_triedOf Q_Mo_triedOf I_Mo_triedOf_4 m_Mo_triedOf_4 v_Mo_triedOf_0 v_Mo_triedOf_4
def P_Mo_givenTo (σ : MI) (τ : ML) (a1 : Int32) : Prop := Vd (vm σ) ∧ AV σ 43 ∧ vp_in a1 4
def Q_Mo_givenTo (σ : MI) (τ : ML) (a1 r : Int32) (σ' : MI) (τ' : ML) : Prop := σ = σ' ∧ τ = τ' ∧ r = nI (dp_mk (fun j => av σ 43 j == a1.toNatClampNeg) (nJ (vm σ)))
def I_Mo_givenTo_4 (σ0 : MI) (τ0 : ML) (a1 x1 x2 x3 : Int32) (σ : MI) (τ : ML) : Prop :=
  σ0 = σ ∧ τ0 = τ ∧ a1 = x1 ∧ P_Mo_givenTo σ0 τ0 a1 ∧ ∃ i, i ≤ nJ (vm σ0) ∧ x3 = nI i ∧ x2 = nI (dp_mk (fun j => av σ0 43 j == a1.toNatClampNeg) i)
def m_Mo_givenTo_4 (σ0 : MI) (τ0 : ML) (a1 x1 x2 x3 : Int32) (σ : MI) (τ : ML) : Nat := 100 - x3.toNatClampNeg
theorem v_Mo_givenTo_0 (σ0 : MI) (τ0 : ML) (a1 : Int32) (h : P_Mo_givenTo σ0 τ0 a1) : s_Mo_givenTo_0 σ0 τ0 a1 (fun z0 z1 z2 σ9 τ9 => I_Mo_givenTo_4 σ0 τ0 a1 z0 z1 z2 σ9 τ9) (Q_Mo_givenTo σ0 τ0 a1) := by
  unfold s_Mo_givenTo_0
  exact ⟨rfl, rfl, rfl, h, 0, Nat.zero_le _, rfl, rfl⟩
theorem v_Mo_givenTo_4 (σ0 : MI) (τ0 : ML) (a1 : Int32) (x1 : Int32) (x2 : Int32) (x3 : Int32) (σ : MI) (τ : ML) (h : I_Mo_givenTo_4 σ0 τ0 a1 x1 x2 x3 σ τ) : s_Mo_givenTo_4 σ τ x1 x2 x3 (fun z0 z1 z2 σ9 τ9 => I_Mo_givenTo_4 σ0 τ0 a1 z0 z1 z2 σ9 τ9 ∧ m_Mo_givenTo_4 σ0 τ0 a1 z0 z1 z2 σ9 τ9 < m_Mo_givenTo_4 σ0 τ0 a1 x1 x2 x3 σ τ) (Q_Mo_givenTo σ0 τ0 a1) := by
  obtain ⟨rfl, rfl, rfl, hP, i, hi, rfl, rfl⟩ := h
  obtain ⟨hd, hA, h1⟩ := id hP
  obtain ⟨p, hp, rfl⟩ := vp_in_of h1 (by decide)
  have hcp : (nI p).toNatClampNeg = p := nI_clamp (by omega)
  have hn := hd.nJl
  have hnp := hd.nPl
  have e8 := vm_8 hd
  have hci : (nI i).toNatClampNeg = i := nI_clamp (by omega)
  have hlt := dp_mk_lt (fun j => av σ0 43 j == p) i
  have hm : ∀ (u v y : Int32), i < nJ (vm σ0) → y = nI i + 1 → m_Mo_givenTo_4 σ0 τ0 (nI p) (nI p) u y σ0 τ0 < m_Mo_givenTo_4 σ0 τ0 (nI p) (nI p) v (nI i) σ0 τ0 := by
    intro u v y hl hy
    unfold m_Mo_givenTo_4
    rw [hy, nI_1, hci, nI_clamp (by omega)]
    omega
  have estep : dp_mk (fun j => av σ0 43 j == p) (i + 1) = dp_mk (fun j => av σ0 43 j == p) i + (if (av σ0 43 i == p) = true then 2 ^ i else 0) := rfl
  unfold s_Mo_givenTo_4
  rw [e8, nI_leI (by omega) (by omega), hci, hcp]
  refine ⟨fun c => ⟨rfl, rfl, ?_⟩, fun c => ?_⟩
  · have e : i = nJ (vm σ0) := by omega
    rw [hcp, e]
  · have hlt2 : i < nJ (vm σ0) := by omega
    obtain ⟨e1, e2⟩ := hA i hlt2
    have heq : σ0 43 i = nI p ↔ av σ0 43 i = p := by rw [e1, nI_eq (by omega) (by omega)]
    rw [heq]
    refine ⟨vp_in_nI (by omega) (by decide), fun c2 y31 h31 y32 h32 => ⟨⟨rfl, rfl, rfl, hP, i + 1, by omega, by rw [h32, nI_1], ?_⟩, hm _ _ _ hlt2 h32⟩, fun c2 y31 h31 y32 h32 => ⟨⟨rfl, rfl, rfl, hP, i + 1, by omega, by rw [h32, nI_1], ?_⟩, hm _ _ _ hlt2 h32⟩⟩
    · rw [h31, or_0, hcp, estep, if_neg (by simpa using c2)]; rfl
    · rw [h31, hcp, estep, if_pos (by simpa using c2), zb_one (by omega), zb_or, or_pow hlt]
theorem c_Mo_givenTo (l : Launch) (D : va_G) (ad : Nat → Nat) (ci cl : ClassId) : ∀ (sz : Nat) (σ0 : MI) (τ0 : ML) (a1 : Int32), P_Mo_givenTo σ0 τ0 a1 → gMi l D (xw ad ci cl) (xt ci cl) (xa ad) y_Mo_givenTo w_Mo_givenTo rm_Mo_givenTo [.ref (ad 29), .int a1] sz σ0 τ0 (Q_Mo_givenTo σ0 τ0 a1) :=
  k_Mo_givenTo l D ad ci cl P_Mo_givenTo Q_Mo_givenTo I_Mo_givenTo_4 m_Mo_givenTo_4 v_Mo_givenTo_0 v_Mo_givenTo_4
def P_Mo_triedMany (σ : MI) (τ : ML) : Prop := Vd (vm σ) ∧ AV σ 46
def Q_Mo_triedMany (σ : MI) (τ : ML) (r : Int32) (σ' : MI) (τ' : ML) : Prop := σ = σ' ∧ τ = τ' ∧ r = nI (cnt (fun j => decide (av σ 46 j < nP (vm σ))) (nJ (vm σ)))
def I_Mo_triedMany_4 (σ0 : MI) (τ0 : ML) (x1 x2 : Int32) (σ : MI) (τ : ML) : Prop :=
  σ0 = σ ∧ τ0 = τ ∧ P_Mo_triedMany σ0 τ0 ∧ ∃ i, i ≤ nJ (vm σ0) ∧ x2 = nI i ∧ x1 = nI (cnt (fun j => decide (av σ0 46 j < nP (vm σ0))) i)
def m_Mo_triedMany_4 (σ0 : MI) (τ0 : ML) (x1 x2 : Int32) (σ : MI) (τ : ML) : Nat := 100 - x2.toNatClampNeg
theorem v_Mo_triedMany_0 (σ0 : MI) (τ0 : ML) (h : P_Mo_triedMany σ0 τ0) : s_Mo_triedMany_0 σ0 τ0 (fun z0 z1 σ9 τ9 => I_Mo_triedMany_4 σ0 τ0 z0 z1 σ9 τ9) (Q_Mo_triedMany σ0 τ0) := by
  unfold s_Mo_triedMany_0
  exact ⟨rfl, rfl, h, 0, Nat.zero_le _, rfl, rfl⟩
theorem v_Mo_triedMany_4 (σ0 : MI) (τ0 : ML) (x1 : Int32) (x2 : Int32) (σ : MI) (τ : ML) (h : I_Mo_triedMany_4 σ0 τ0 x1 x2 σ τ) : s_Mo_triedMany_4 σ τ x1 x2 (fun z0 z1 σ9 τ9 => I_Mo_triedMany_4 σ0 τ0 z0 z1 σ9 τ9 ∧ m_Mo_triedMany_4 σ0 τ0 z0 z1 σ9 τ9 < m_Mo_triedMany_4 σ0 τ0 x1 x2 σ τ) (Q_Mo_triedMany σ0 τ0) := by
  obtain ⟨rfl, rfl, hP, i, hi, rfl, rfl⟩ := h
  obtain ⟨hd, hA⟩ := id hP
  have hn := hd.nJl
  have hnp := hd.nPl
  have e8 := vm_8 hd
  have e1 := vm_1 hd
  have hci : (nI i).toNatClampNeg = i := nI_clamp (by omega)
  have hm : ∀ (u v y : Int32), i < nJ (vm σ0) → y = nI i + 1 → m_Mo_triedMany_4 σ0 τ0 u y σ0 τ0 < m_Mo_triedMany_4 σ0 τ0 v (nI i) σ0 τ0 := by
    intro u v y hl hy
    unfold m_Mo_triedMany_4
    rw [hy, nI_1, hci, nI_clamp (by omega)]
    omega
  have estep : cnt (fun j => decide (av σ0 46 j < nP (vm σ0))) (i + 1) = cnt (fun j => decide (av σ0 46 j < nP (vm σ0))) i + (if decide (av σ0 46 i < nP (vm σ0)) = true then 1 else 0) := rfl
  unfold s_Mo_triedMany_4
  rw [e8, nI_leI (by omega) (by omega), hci, e1]
  refine ⟨fun c => ⟨rfl, rfl, ?_⟩, fun c => ?_⟩
  · have e : i = nJ (vm σ0) := by omega
    rw [e]
  · have hlt2 : i < nJ (vm σ0) := by omega
    obtain ⟨a1, a2⟩ := hA i hlt2
    have heq : nI (nP (vm σ0)) ≤ σ0 46 i ↔ ¬ av σ0 46 i < nP (vm σ0) := by rw [a1, nI_leI (by omega) (by omega)]; omega
    rw [heq]
    refine ⟨vp_in_nI (by omega) (by decide), fun c2 y31 h31 y32 h32 => ⟨⟨rfl, rfl, hP, i + 1, by omega, by rw [h32, nI_1], ?_⟩, hm _ _ _ hlt2 h32⟩, fun c2 y31 h31 y32 h32 => ⟨⟨rfl, rfl, hP, i + 1, by omega, by rw [h32, nI_1], ?_⟩, hm _ _ _ hlt2 h32⟩⟩
    · rw [h31, estep, if_neg (by simpa using c2)]; simp
    · rw [h31, estep, if_pos (by simpa using c2), nI_1]
theorem c_Mo_triedMany (l : Launch) (D : va_G) (ad : Nat → Nat) (ci cl : ClassId) : ∀ (sz : Nat) (σ0 : MI) (τ0 : ML), P_Mo_triedMany σ0 τ0 → gMi l D (xw ad ci cl) (xt ci cl) (xa ad) y_Mo_triedMany w_Mo_triedMany rm_Mo_triedMany [.ref (ad 29)] sz σ0 τ0 (Q_Mo_triedMany σ0 τ0) :=
  k_Mo_triedMany l D ad ci cl P_Mo_triedMany Q_Mo_triedMany I_Mo_triedMany_4 m_Mo_triedMany_4 v_Mo_triedMany_0 v_Mo_triedMany_4
def P_Mo_givenMany (σ : MI) (τ : ML) : Prop := Vd (vm σ) ∧ AV σ 43
def Q_Mo_givenMany (σ : MI) (τ : ML) (r : Int32) (σ' : MI) (τ' : ML) : Prop := σ = σ' ∧ τ = τ' ∧ r = nI (cnt (fun j => decide (av σ 43 j < nP (vm σ))) (nJ (vm σ)))
def I_Mo_givenMany_4 (σ0 : MI) (τ0 : ML) (x1 x2 : Int32) (σ : MI) (τ : ML) : Prop :=
  σ0 = σ ∧ τ0 = τ ∧ P_Mo_givenMany σ0 τ0 ∧ ∃ i, i ≤ nJ (vm σ0) ∧ x2 = nI i ∧ x1 = nI (cnt (fun j => decide (av σ0 43 j < nP (vm σ0))) i)
def m_Mo_givenMany_4 (σ0 : MI) (τ0 : ML) (x1 x2 : Int32) (σ : MI) (τ : ML) : Nat := 100 - x2.toNatClampNeg
theorem v_Mo_givenMany_0 (σ0 : MI) (τ0 : ML) (h : P_Mo_givenMany σ0 τ0) : s_Mo_givenMany_0 σ0 τ0 (fun z0 z1 σ9 τ9 => I_Mo_givenMany_4 σ0 τ0 z0 z1 σ9 τ9) (Q_Mo_givenMany σ0 τ0) := by
  unfold s_Mo_givenMany_0
  exact ⟨rfl, rfl, h, 0, Nat.zero_le _, rfl, rfl⟩
theorem v_Mo_givenMany_4 (σ0 : MI) (τ0 : ML) (x1 : Int32) (x2 : Int32) (σ : MI) (τ : ML) (h : I_Mo_givenMany_4 σ0 τ0 x1 x2 σ τ) : s_Mo_givenMany_4 σ τ x1 x2 (fun z0 z1 σ9 τ9 => I_Mo_givenMany_4 σ0 τ0 z0 z1 σ9 τ9 ∧ m_Mo_givenMany_4 σ0 τ0 z0 z1 σ9 τ9 < m_Mo_givenMany_4 σ0 τ0 x1 x2 σ τ) (Q_Mo_givenMany σ0 τ0) := by
  obtain ⟨rfl, rfl, hP, i, hi, rfl, rfl⟩ := h
  obtain ⟨hd, hA⟩ := id hP
  have hn := hd.nJl
  have hnp := hd.nPl
  have e8 := vm_8 hd
  have e1 := vm_1 hd
  have hci : (nI i).toNatClampNeg = i := nI_clamp (by omega)
  have hm : ∀ (u v y : Int32), i < nJ (vm σ0) → y = nI i + 1 → m_Mo_givenMany_4 σ0 τ0 u y σ0 τ0 < m_Mo_givenMany_4 σ0 τ0 v (nI i) σ0 τ0 := by
    intro u v y hl hy
    unfold m_Mo_givenMany_4
    rw [hy, nI_1, hci, nI_clamp (by omega)]
    omega
  have estep : cnt (fun j => decide (av σ0 43 j < nP (vm σ0))) (i + 1) = cnt (fun j => decide (av σ0 43 j < nP (vm σ0))) i + (if decide (av σ0 43 i < nP (vm σ0)) = true then 1 else 0) := rfl
  unfold s_Mo_givenMany_4
  rw [e8, nI_leI (by omega) (by omega), hci, e1]
  refine ⟨fun c => ⟨rfl, rfl, ?_⟩, fun c => ?_⟩
  · have e : i = nJ (vm σ0) := by omega
    rw [e]
  · have hlt2 : i < nJ (vm σ0) := by omega
    obtain ⟨a1, a2⟩ := hA i hlt2
    have heq : nI (nP (vm σ0)) ≤ σ0 43 i ↔ ¬ av σ0 43 i < nP (vm σ0) := by rw [a1, nI_leI (by omega) (by omega)]; omega
    rw [heq]
    refine ⟨vp_in_nI (by omega) (by decide), fun c2 y31 h31 y32 h32 => ⟨⟨rfl, rfl, hP, i + 1, by omega, by rw [h32, nI_1], ?_⟩, hm _ _ _ hlt2 h32⟩, fun c2 y31 h31 y32 h32 => ⟨⟨rfl, rfl, hP, i + 1, by omega, by rw [h32, nI_1], ?_⟩, hm _ _ _ hlt2 h32⟩⟩
    · rw [h31, estep, if_neg (by simpa using c2)]; simp
    · rw [h31, estep, if_pos (by simpa using c2), nI_1]
theorem c_Mo_givenMany (l : Launch) (D : va_G) (ad : Nat → Nat) (ci cl : ClassId) : ∀ (sz : Nat) (σ0 : MI) (τ0 : ML), P_Mo_givenMany σ0 τ0 → gMi l D (xw ad ci cl) (xt ci cl) (xa ad) y_Mo_givenMany w_Mo_givenMany rm_Mo_givenMany [.ref (ad 29)] sz σ0 τ0 (Q_Mo_givenMany σ0 τ0) :=
  k_Mo_givenMany l D ad ci cl P_Mo_givenMany Q_Mo_givenMany I_Mo_givenMany_4 m_Mo_givenMany_4 v_Mo_givenMany_0 v_Mo_givenMany_4
def P_Mo_best (σ : MI) (τ : ML) (a1 : Int32) : Prop := Vd (vm σ) ∧ vp_in a1 7 ∧ ∀ j, j < nJ (vm σ) → vp_in (σ 44 j) 64
def Q_Mo_best (σ : MI) (τ : ML) (a1 r : Int32) (σ' : MI) (τ' : ML) : Prop := σ = σ' ∧ τ = τ' ∧ ∃ f, bsf (vm σ) (bsy (vm σ) (tgm σ) a1.toNatClampNeg (nJ (vm σ))) (vm σ 10 a1.toNatClampNeg).toNat (2 ^ nT (vm σ)) f ∧ r = nI f
def I_Mo_best_11 (σ0 : MI) (τ0 : ML) (a1 x1 x2 x3 x4 : Int32) (σ : MI) (τ : ML) : Prop :=
  σ0 = σ ∧ τ0 = τ ∧ a1 = x1 ∧ P_Mo_best σ0 τ0 a1 ∧ x2 = nI (bsy (vm σ0) (tgm σ0) a1.toNatClampNeg (nJ (vm σ0))) ∧ ∃ m f, 1 ≤ m ∧ m ≤ 2 ^ nT (vm σ0) ∧ x4 = nI m ∧ x3 = nI f ∧ bsf (vm σ0) (bsy (vm σ0) (tgm σ0) a1.toNatClampNeg (nJ (vm σ0))) (vm σ0 10 a1.toNatClampNeg).toNat m f
def m_Mo_best_11 (σ0 : MI) (τ0 : ML) (a1 x1 x2 x3 x4 : Int32) (σ : MI) (τ : ML) : Nat := 1000 - x4.toNatClampNeg
theorem v_Mo_best_0 (σ0 : MI) (τ0 : ML) (a1 : Int32) (h : P_Mo_best σ0 τ0 a1) : s_Mo_best_0 P_Mo_busy Q_Mo_busy P_Mo_together Q_Mo_together P_Mo_many Q_Mo_many P_Mo_isAhead Q_Mo_isAhead σ0 τ0 a1 (fun z0 z1 z2 z3 σ9 τ9 => I_Mo_best_11 σ0 τ0 a1 z0 z1 z2 z3 σ9 τ9) (Q_Mo_best σ0 τ0 a1) := by
  unfold s_Mo_best_0
  refine ⟨h, fun r s t hq => ?_⟩
  obtain ⟨rfl, rfl, rfl⟩ := hq
  exact ⟨rfl, rfl, rfl, h, rfl, 1, 0, Nat.le_refl 1, Nat.two_pow_pos _, rfl, rfl, 0, rfl, Or.inr ⟨fun z => z.1 rfl, rfl⟩⟩
theorem v_Mo_best_11 (σ0 : MI) (τ0 : ML) (a1 : Int32) (x1 : Int32) (x2 : Int32) (x3 : Int32) (x4 : Int32) (σ : MI) (τ : ML) (h : I_Mo_best_11 σ0 τ0 a1 x1 x2 x3 x4 σ τ) : s_Mo_best_11 P_Mo_busy Q_Mo_busy P_Mo_together Q_Mo_together P_Mo_many Q_Mo_many P_Mo_isAhead Q_Mo_isAhead σ τ x1 x2 x3 x4 (fun z0 z1 z2 z3 σ9 τ9 => I_Mo_best_11 σ0 τ0 a1 z0 z1 z2 z3 σ9 τ9 ∧ m_Mo_best_11 σ0 τ0 a1 z0 z1 z2 z3 σ9 τ9 < m_Mo_best_11 σ0 τ0 a1 x1 x2 x3 x4 σ τ) (Q_Mo_best σ0 τ0 a1) := by
  obtain ⟨rfl, rfl, rfl, hP, rfl, m, f, hm1, hm2, rfl, rfl, hb⟩ := h
  obtain ⟨hd, h1, ht⟩ := id hP
  obtain ⟨j, hj, rfl⟩ := vp_in_of h1 (by decide)
  have hcj : (nI j).toNatClampNeg = j := nI_clamp (by omega)
  have hnt := hd.nTl
  have e15 := vm_15 hd
  have hp64 : 2 ^ nT (vm σ0) ≤ 2 ^ 6 := Nat.pow_le_pow_right (by decide) hnt.1
  rw [hcj] at hb
  rw [hcj]
  have hub : bsy (vm σ0) (tgm σ0) j (nJ (vm σ0)) < 2 ^ 6 := bsy_lt (fun i hi => by
    obtain ⟨x, hx, e⟩ := vp_in_of (ht i hi) (by decide)
    unfold tgm
    rw [e, nI_clamp (by omega)]; exact hx)
  generalize hU : bsy (vm σ0) (tgm σ0) j (nJ (vm σ0)) = U at *
  have hf := bsf_lt _ _ hb
  have hcm : (nI m).toNatClampNeg = m := nI_clamp (by omega)
  have hcf : (nI f).toNatClampNeg = f := nI_clamp (by omega)
  have hI : ∀ (u y : Int32) (g : Nat), m < 2 ^ nT (vm σ0) → u = nI g → y = nI m + 1 → bsf (vm σ0) U (vm σ0 10 j).toNat (m + 1) g → I_Mo_best_11 σ0 τ0 (nI j) (nI j) (nI U) u y σ0 τ0 ∧ m_Mo_best_11 σ0 τ0 (nI j) (nI j) (nI U) u y σ0 τ0 < m_Mo_best_11 σ0 τ0 (nI j) (nI j) (nI U) (nI f) (nI m) σ0 τ0 := by
    intro u y g hlt hu hy hg
    refine ⟨⟨rfl, rfl, rfl, hP, by rw [hcj, hU], m + 1, g, by omega, by omega, by rw [hy, nI_1], hu, by rw [hcj, hU]; exact hg⟩, ?_⟩
    unfold m_Mo_best_11
    rw [hy, nI_1, hcm, nI_clamp (by omega)]
    omega
  have hno : m < 2 ^ nT (vm σ0) → ¬ (m ≠ 0 ∧ m &&& U = 0 ∧ (vm σ0 10 j).toNat ≤ plo (vm σ0) m (nT (vm σ0)) ∧ (f = 0 ∨ btr (vm σ0) m f)) → ∀ y, y = nI m + 1 → I_Mo_best_11 σ0 τ0 (nI j) (nI j) (nI U) (nI f) y σ0 τ0 ∧ m_Mo_best_11 σ0 τ0 (nI j) (nI j) (nI U) (nI f) y σ0 τ0 < m_Mo_best_11 σ0 τ0 (nI j) (nI j) (nI U) (nI f) (nI m) σ0 τ0 := fun hlt hz y hy => hI _ y f hlt rfl hy ⟨f, hb, Or.inr ⟨hz, rfl⟩⟩
  have hyes : m < 2 ^ nT (vm σ0) → (m ≠ 0 ∧ m &&& U = 0 ∧ (vm σ0 10 j).toNat ≤ plo (vm σ0) m (nT (vm σ0)) ∧ (f = 0 ∨ btr (vm σ0) m f)) → ∀ y, y = nI m + 1 → I_Mo_best_11 σ0 τ0 (nI j) (nI j) (nI U) (nI m) y σ0 τ0 ∧ m_Mo_best_11 σ0 τ0 (nI j) (nI j) (nI U) (nI m) y σ0 τ0 < m_Mo_best_11 σ0 τ0 (nI j) (nI j) (nI U) (nI f) (nI m) σ0 τ0 := fun hlt hz y hy => hI _ y m hlt rfl hy ⟨f, hb, Or.inl ⟨hz.1, hz.2.1, hz.2.2.1, hz.2.2.2, rfl⟩⟩
  have hand : nI m &&& nI U = 0 ↔ m &&& U = 0 := by
    have : m &&& U ≤ m := Nat.and_le_left
    rw [zb_and]
    exact nI_eq (a := m &&& U) (b := 0) (by omega) (by omega)
  have hpm := plo_le hd m (nT (vm σ0)) hnt.1
  have hpf := plo_le hd f (nT (vm σ0)) hnt.1
  have hkm : pcn m ≤ 7 := by
    have := dp_sb_le (g := fun _ => 1) (S := m) 1 (fun _ => Nat.le_refl 1) 7
    unfold pcn; omega
  have hkf : pcn f ≤ 7 := by
    have := dp_sb_le (g := fun _ => 1) (S := f) 1 (fun _ => Nat.le_refl 1) 7
    unfold pcn; omega
  have hpu : (vm σ0 10 j).toNat ≤ plo (vm σ0) m (nT (vm σ0)) ↔ σ0 38 j ≤ nI (plo (vm σ0) m (nT (vm σ0))) := by
    have := hd.job (j := j) hj
    rw [z_le, z_nI (by omega)]
    show (σ0 38 j).toInt.toNat ≤ _ ↔ _
    have e : vm σ0 10 j = (σ0 38 j).toInt := rfl
    rw [e] at this
    omega
  unfold s_Mo_best_11
  rw [e15, zb_one (by omega), nI_leI (by omega) (by omega), hand]
  refine ⟨fun c => ⟨rfl, rfl, f, ?_, rfl⟩, fun c => ?_⟩
  · have e : m = 2 ^ nT (vm σ0) := by omega
    rw [hcj, hU, ← e]; exact hb
  · have hlt : m < 2 ^ nT (vm σ0) := by omega
    have hm128 : vp_in (nI m) 128 := vp_in_nI (by omega) (by decide)
    have hf128 : vp_in (nI f) 128 := vp_in_nI (by omega) (by decide)
    have hmT : vp_in (nI m) (2 ^ nT (vm σ0)) := vp_in_nI hlt (by omega)
    have hfT : vp_in (nI f) (2 ^ nT (vm σ0)) := vp_in_nI (by omega) (by omega)
    refine ⟨fun c2 y hy => hno hlt (fun z => c2 z.2.1) y hy, fun c2 => ⟨⟨hd, hm128⟩, fun r32 s32 t32 q32 => ?_⟩⟩
    obtain ⟨rfl, rfl, rfl⟩ := q32
    rw [hcm, hcj, ← hpu]
    refine ⟨h1, fun c3 => ⟨⟨hd, hmT⟩, fun r50 s50 t50 q50 => ?_⟩, fun c3 y hy => hno hlt (fun z => c3 z.2.2.1) y hy⟩
    obtain ⟨rfl, rfl, rfl⟩ := q50
    refine ⟨⟨hd, hfT⟩, fun r55 s55 t55 q55 => ?_⟩
    obtain ⟨rfl, rfl, rfl⟩ := q55
    intro y59 h59
    refine ⟨⟨hd, hm128⟩, fun r64 s64 t64 q64 => ?_⟩
    obtain ⟨rfl, rfl, rfl⟩ := q64
    refine ⟨⟨hd, hf128⟩, fun r69 s69 t69 q69 => ?_⟩
    obtain ⟨rfl, rfl, rfl⟩ := q69
    intro y73 h73
    rw [hcm, hcf] at h59 h73
    have e59 : y59.toInt = (pcn m : Int) - pcn f := by
      have a1 := z_nI (k := pcn m) (by omega)
      have a2 := z_nI (k := pcn f) (by omega)
      rw [h59, z_sub (by omega) (by omega), a1, a2]
    have e73 : y73.toInt = (plo (vm σ0) m (nT (vm σ0)) : Int) - plo (vm σ0) f (nT (vm σ0)) := by
      have a1 := z_nI (k := plo (vm σ0) m (nT (vm σ0))) (by omega)
      have a2 := z_nI (k := plo (vm σ0) f (nT (vm σ0))) (by omega)
      rw [h73, z_sub (by omega) (by omega), a1, a2]
    have hf0 : nI f = 0 ↔ f = 0 := nI_eq (a := f) (b := 0) (by omega) (by omega)
    rw [hf0, z_lt, z_eq, z_lt, z_eq, e59, e73, zc_0]
    refine ⟨fun c4 y hy => hyes hlt ⟨by omega, c2, c3, Or.inl c4⟩ y hy, fun c4 => ⟨fun c5 y hy => hyes hlt ⟨by omega, c2, c3, Or.inr (Or.inl (by omega))⟩ y hy, fun c5 => ⟨fun c6 y hy => hno hlt (fun z => ?_) y hy, fun c6 => ⟨fun c7 y hy => hyes hlt ⟨by omega, c2, c3, Or.inr (Or.inr ⟨by omega, Or.inl (by omega)⟩)⟩ y hy, fun c7 => ⟨fun c8 y hy => hno hlt (fun z => ?_) y hy, fun c8 => ⟨trivial, fun r102 s102 t102 q102 => ?_⟩⟩⟩⟩⟩⟩
    · rcases z.2.2.2 with w | w | w
      · exact c4 w
      · omega
      · have := w.1; omega
    · rcases z.2.2.2 with w | w | w
      · exact c4 w
      · omega
      · rcases w.2 with w | w
        · omega
        · have := w.1; omega
    · obtain ⟨rfl, rfl, hr⟩ := q102
      refine ⟨fun c9 y hy => hno hlt (fun z => ?_) y hy, fun c9 y hy => hyes hlt ⟨by omega, c2, c3, Or.inr (Or.inr ⟨by omega, Or.inr ⟨by omega, rb_1 hr c9⟩⟩)⟩ y hy⟩
      rcases z.2.2.2 with w | w | w
      · exact c4 w
      · omega
      · rcases w.2 with w | w
        · omega
        · exact rb_0 hr c9 w.2
theorem c_Mo_best (l : Launch) (D : va_G) (ad : Nat → Nat) (ci cl : ClassId) : ∀ (sz : Nat) (σ0 : MI) (τ0 : ML) (a1 : Int32), P_Mo_best σ0 τ0 a1 → gMi l D (xw ad ci cl) (xt ci cl) (xa ad) y_Mo_best w_Mo_best rm_Mo_best [.ref (ad 29), .int a1] sz σ0 τ0 (Q_Mo_best σ0 τ0 a1) :=
  k_Mo_best l D ad ci cl P_Mo_best Q_Mo_best P_Mo_busy Q_Mo_busy P_Mo_together Q_Mo_together P_Mo_many Q_Mo_many P_Mo_isAhead Q_Mo_isAhead (c_Mo_busy l D ad ci cl) (c_Mo_together l D ad ci cl) (c_Mo_many l D ad ci cl) (c_Mo_isAhead l D ad ci cl) I_Mo_best_11 m_Mo_best_11 v_Mo_best_0 v_Mo_best_11
def P_Mo_goesOn (σ : MI) (τ : ML) : Prop := Vd (vm σ) ∧ AV σ 46
def Q_Mo_goesOn (σ : MI) (τ : ML) (r : Int32) (σ' : MI) (τ' : ML) : Prop := τ = τ' ∧ (∀ c, c ≠ 46 → σ' c = σ c) ∧
  ((r = 0 ∧ ∀ j, j < nJ (vm σ) → av σ 46 j = nP (vm σ)) ∨ (r = 1 ∧ ∃ j, j < nJ (vm σ) ∧ av σ 46 j < nP (vm σ) ∧ σ' 46 j = nI (av σ 46 j + 1) ∧ (∀ i, i < j → σ' 46 i = σ 46 i) ∧ ∀ i, j < i → i < nJ (vm σ) → av σ 46 i = nP (vm σ) ∧ σ' 46 i = 0))
def I_Mo_goesOn_7 (σ0 : MI) (τ0 : ML) (x1 : Int32) (σ : MI) (τ : ML) : Prop :=
  τ0 = τ ∧ P_Mo_goesOn σ0 τ0 ∧ (∀ c, c ≠ 46 → σ c = σ0 c) ∧ ∃ i, i ≤ nJ (vm σ0) ∧ x1.toInt = (i : Int) - 1 ∧ (∀ j, j < i → σ 46 j = σ0 46 j) ∧ ∀ j, i ≤ j → j < nJ (vm σ0) → av σ0 46 j = nP (vm σ0) ∧ σ 46 j = 0
def m_Mo_goesOn_7 (σ0 : MI) (τ0 : ML) (x1 : Int32) (σ : MI) (τ : ML) : Nat := (x1.toInt + 1).toNat
theorem v_Mo_goesOn_0 (σ0 : MI) (τ0 : ML) (h : P_Mo_goesOn σ0 τ0) : s_Mo_goesOn_0 σ0 τ0 (fun z0 σ9 τ9 => I_Mo_goesOn_7 σ0 τ0 z0 σ9 τ9) (Q_Mo_goesOn σ0 τ0) := by
  unfold s_Mo_goesOn_0
  intro y hy
  have hd := h.1
  have hn := hd.nJl
  have e8 := vm_8 hd
  refine ⟨rfl, h, fun _ _ => rfl, nJ (vm σ0), Nat.le_refl _, ?_, fun _ _ => rfl, fun j h1 h2 => by omega⟩
  rw [hy, e8]
  have hz := z_nI (k := nJ (vm σ0)) (by omega)
  rw [z_sub (by rw [zc_1]; omega) (by rw [zc_1]; omega), hz, zc_1]
theorem v_Mo_goesOn_7 (σ0 : MI) (τ0 : ML) (x1 : Int32) (σ : MI) (τ : ML) (h : I_Mo_goesOn_7 σ0 τ0 x1 σ τ) : s_Mo_goesOn_7 σ τ x1 (fun z0 σ9 τ9 => I_Mo_goesOn_7 σ0 τ0 z0 σ9 τ9 ∧ m_Mo_goesOn_7 σ0 τ0 z0 σ9 τ9 < m_Mo_goesOn_7 σ0 τ0 x1 σ τ) (Q_Mo_goesOn σ0 τ0) := by
  obtain ⟨rfl, hP, hc, i, hi, hx, hlo, hhi⟩ := h
  obtain ⟨hd, hA⟩ := id hP
  have hn := hd.nJl
  have hnp := hd.nPl
  have e1 := vm_1 hd
  have e29 : σ 29 1 = nI (nP (vm σ0)) := by rw [hc 29 (by decide)]; exact e1
  by_cases z : i = 0
  · have c0 : x1 < 0 := by rw [z_lt, zc_0]; omega
    subst z
    unfold s_Mo_goesOn_7 s_Mo_goesOn_37 s_Mo_goesOn_51
    refine ⟨fun _ => ⟨fun _ => ⟨fun _ => ⟨Or.inl rfl, rfl, hc, Or.inl ⟨rfl, fun j hj => (hhi j (Nat.zero_le j) hj).1⟩⟩, fun c => absurd c0 c⟩, fun c => absurd c0 c⟩, fun c => absurd c0 c⟩
  · obtain ⟨j, rfl⟩ : ∃ j, i = j + 1 := ⟨i - 1, by omega⟩
    have ex : x1 = nI j := by rw [z_eq, z_nI (by omega), hx]; omega
    subst ex
    have c0 : ¬ nI j < 0 := by rw [z_lt, zc_0, z_nI (by omega)]; omega
    have hj7 : vp_in (nI j) 7 := vp_in_nI (by omega) (by decide)
    have hcj : (nI j).toNatClampNeg = j := nI_clamp (by omega)
    obtain ⟨a1, a2⟩ := hA j (by omega)
    unfold s_Mo_goesOn_7 s_Mo_goesOn_37 s_Mo_goesOn_51
    rw [hcj, e29, hlo j (by omega), a1, nI_eq (by omega) (by omega)]
    refine ⟨fun c => absurd c c0, fun _ => ⟨hj7, fun c2 => ⟨fun c => absurd c c0, fun _ => ⟨hj7, hj7, fun s50 h50 => ⟨fun c => absurd c c0, fun _ => ⟨Or.inr rfl, rfl, fun c hcc => by rw [h50, st2_ne hcc]; exact hc c hcc, Or.inr ⟨rfl, j, by omega, by omega, by rw [h50, st2_at, if_pos ⟨rfl, rfl⟩, nI_1], fun i hi => by rw [h50, st2_at, if_neg (by omega)]; exact hlo i (by omega), fun i h1 h2 => ⟨(hhi i h1 h2).1, by rw [h50, st2_at, if_neg (by omega)]; exact (hhi i h1 h2).2⟩⟩⟩⟩⟩⟩, fun c2 => ⟨hj7, fun s30 h30 y31 h31 => ⟨⟨rfl, hP, fun c hcc => by rw [h30, st2_ne hcc]; exact hc c hcc, j, by omega, ?_, fun i hi => by rw [h30, st2_at, if_neg (by omega)]; exact hlo i (by omega), fun i h1 h2 => ?_⟩, ?_⟩⟩⟩⟩
    · rw [h31]
      have hz := z_nI (k := j) (by omega)
      rw [z_add (by rw [zc_m1]; omega) (by rw [zc_m1]; omega), hz, zc_m1]; omega
    · by_cases e : i = j
      · subst e
        exact ⟨c2, by rw [h30, st2_at, if_pos ⟨rfl, rfl⟩]⟩
      · exact ⟨(hhi i (by omega) h2).1, by rw [h30, st2_at, if_neg (by omega)]; exact (hhi i (by omega) h2).2⟩
    · unfold m_Mo_goesOn_7
      have hz := z_nI (k := j) (by omega)
      rw [h31, z_add (by rw [zc_m1]; omega) (by rw [zc_m1]; omega), hz, zc_m1]
      omega
theorem c_Mo_goesOn (l : Launch) (D : va_G) (ad : Nat → Nat) (ci cl : ClassId) : ∀ (sz : Nat) (σ0 : MI) (τ0 : ML), P_Mo_goesOn σ0 τ0 → gMi l D (xw ad ci cl) (xt ci cl) (xa ad) y_Mo_goesOn w_Mo_goesOn rm_Mo_goesOn [.ref (ad 29)] sz σ0 τ0 (Q_Mo_goesOn σ0 τ0) :=
  k_Mo_goesOn l D ad ci cl P_Mo_goesOn Q_Mo_goesOn I_Mo_goesOn_7 m_Mo_goesOn_7 v_Mo_goesOn_0 v_Mo_goesOn_7
