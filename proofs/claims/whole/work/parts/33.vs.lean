/-- the table of costs -/
def CST (σ : MI) : Prop := ∀ q T, q < nP (vm σ) → T < 2 ^ nJ (vm σ) → σ 45 (128 * q + T) = fv (trb (vm σ) (barm (vm σ)) q T)
noncomputable def trt (σ : MI) : Nat → Option Nat := fun q => trb (vm σ) (barm (vm σ)) q (dp_mk (fun j => av σ 46 j == q) (nJ (vm σ)))
def P_Mo_triedCost (σ : MI) (τ : ML) : Prop := Vd (vm σ) ∧ AV σ 46 ∧ CST σ
def Q_Mo_triedCost (σ : MI) (τ : ML) (r : Int32) (σ' : MI) (τ' : ML) : Prop := σ = σ' ∧ τ = τ' ∧ r = fv (osum (trt σ) (nP (vm σ)))
def I_Mo_triedCost_4 (σ0 : MI) (τ0 : ML) (x1 x2 : Int32) (σ : MI) (τ : ML) : Prop :=
  σ0 = σ ∧ τ0 = τ ∧ P_Mo_triedCost σ0 τ0 ∧ ∃ i, i ≤ nP (vm σ0) ∧ x2 = nI i ∧ x1 = fv (osum (trt σ0) i)
def m_Mo_triedCost_4 (σ0 : MI) (τ0 : ML) (x1 x2 : Int32) (σ : MI) (τ : ML) : Nat := 100 - x2.toNatClampNeg
theorem trb_le {d : Dt} (hd : Vd d) {B q T t : Nat} (hq : q < 4) (h : trb d B q T = some t) : t ≤ 2100 := by
  have hn := hd.nJl
  unfold trb at h
  split at h
  · split at h
    · injection h with h; omega
    · cases h
  · exact trv_rng hd hq hn.1 (fun k hk => Nat.lt_of_lt_of_le (od_lt7 hd hk) hn.1) h
theorem trt_le {σ : MI} (hd : Vd (vm σ)) : ∀ q, q < nP (vm σ) → ∀ t, trt σ q = some t → t ≤ 2100 := fun q hq t h => by
  have hnp := hd.nPl
  exact trb_le hd (by omega) h
theorem v_Mo_triedCost_0 (σ0 : MI) (τ0 : ML) (h : P_Mo_triedCost σ0 τ0) : s_Mo_triedCost_0 P_Mo_triedOf Q_Mo_triedOf σ0 τ0 (fun z0 z1 σ9 τ9 => I_Mo_triedCost_4 σ0 τ0 z0 z1 σ9 τ9) (Q_Mo_triedCost σ0 τ0) := by
  unfold s_Mo_triedCost_0
  exact ⟨rfl, rfl, h, 0, Nat.zero_le _, rfl, rfl⟩
theorem v_Mo_triedCost_4 (σ0 : MI) (τ0 : ML) (x1 : Int32) (x2 : Int32) (σ : MI) (τ : ML) (h : I_Mo_triedCost_4 σ0 τ0 x1 x2 σ τ) : s_Mo_triedCost_4 P_Mo_triedOf Q_Mo_triedOf σ τ x1 x2 (fun z0 z1 σ9 τ9 => I_Mo_triedCost_4 σ0 τ0 z0 z1 σ9 τ9 ∧ m_Mo_triedCost_4 σ0 τ0 z0 z1 σ9 τ9 < m_Mo_triedCost_4 σ0 τ0 x1 x2 σ τ) (Q_Mo_triedCost σ0 τ0) := by
  obtain ⟨rfl, rfl, hP, i, hi, rfl, rfl⟩ := h
  obtain ⟨hd, hA, hC⟩ := id hP
  have hn := hd.nJl
  have hnp := hd.nPl
  have e1 := vm_1 hd
  have hci : (nI i).toNatClampNeg = i := nI_clamp (by omega)
  have hle := osum_le (trt_le hd) i hi
  have hm : ∀ (u v y : Int32), i < nP (vm σ0) → y = nI i + 1 → m_Mo_triedCost_4 σ0 τ0 u y σ0 τ0 < m_Mo_triedCost_4 σ0 τ0 v (nI i) σ0 τ0 := by
    intro u v y hl hy
    unfold m_Mo_triedCost_4
    rw [hy, nI_1, hci, nI_clamp (by omega)]
    omega
  unfold s_Mo_triedCost_4
  rw [e1, nI_leI (by omega) (by omega)]
  refine ⟨fun c => ⟨rfl, rfl, ?_⟩, fun c => ⟨fun c2 => ⟨rfl, rfl, ?_⟩, fun c2 => ?_⟩⟩
  · have e : i = nP (vm σ0) := by omega
    rw [e]
  · have : osum (trt σ0) i = none := by
      cases hx : osum (trt σ0) i with
      | none => rfl
      | some a =>
        have := hle a hx
        rw [hx, z_le, zc_far] at c2
        unfold fv at c2
        rw [z_nI (by omega)] at c2
        omega
    rw [this, osum_none hi this]
  · have hlt : i < nP (vm σ0) := by omega
    refine ⟨⟨hd, hA, vp_in_nI (by omega) (by decide)⟩, fun r29 s29 t29 q29 => ?_⟩
    obtain ⟨rfl, rfl, rfl⟩ := q29
    rw [hci]
    have hTl := dp_mk_lt (fun j => av σ0 46 j == i) (nJ (vm σ0))
    have hp7 : 2 ^ nJ (vm σ0) ≤ 2 ^ 7 := Nat.pow_le_pow_right (by decide) hn.1
    have etr : trb (vm σ0) (barm (vm σ0)) i (dp_mk (fun j => av σ0 46 j == i) (nJ (vm σ0))) = trt σ0 i := rfl
    have hcs := hC i (dp_mk (fun j => av σ0 46 j == i) (nJ (vm σ0))) hlt hTl
    rw [etr] at hcs
    have eix : 128 * nI i + nI (dp_mk (fun j => av σ0 46 j == i) (nJ (vm σ0))) = nI (128 * i + dp_mk (fun j => av σ0 46 j == i) (nJ (vm σ0))) := by
      have : (128 : Int32) = nI 128 := rfl
      rw [this, nI_mul, nI_add]
    rw [eix]
    refine ⟨vp_in_nI (by omega) (by decide), fun y34 h34 => ?_⟩
    rw [nI_clamp (by omega), hcs] at h34
    have hfar : y34 = 1000000000 ↔ trt σ0 i = none := by
      rw [h34]
      exact fv_far (fun t ht => by have := trt_le hd i hlt t ht; omega)
    rw [hfar]
    refine ⟨fun c3 y49 h49 y50 h50 => ⟨⟨rfl, rfl, hP, i + 1, by omega, by rw [h50, nI_1], ?_⟩, hm _ _ _ hlt h50⟩, fun c3 y50 h50 => ⟨⟨rfl, rfl, hP, i + 1, by omega, by rw [h50, nI_1], ?_⟩, hm _ _ _ hlt h50⟩⟩
    · cases hx : osum (trt σ0) i with
      | none =>
        rw [hx] at c2
        exact absurd (by decide) c2
      | some a =>
        cases hy : trt σ0 i with
        | none => exact absurd hy c3
        | some b =>
          rw [osum_some hx hy, h49, h34, hx, hy]
          exact nI_add a b
    · rw [osum_no c3]; rfl
theorem c_Mo_triedCost (l : Launch) (D : va_G) (ad : Nat → Nat) (ci cl : ClassId) : ∀ (sz : Nat) (σ0 : MI) (τ0 : ML), P_Mo_triedCost σ0 τ0 → gMi l D (xw ad ci cl) (xt ci cl) (xa ad) y_Mo_triedCost w_Mo_triedCost rm_Mo_triedCost [.ref (ad 29)] sz σ0 τ0 (Q_Mo_triedCost σ0 τ0) :=
  k_Mo_triedCost l D ad ci cl P_Mo_triedCost Q_Mo_triedCost P_Mo_triedOf Q_Mo_triedOf (c_Mo_triedOf l D ad ci cl) I_Mo_triedCost_4 m_Mo_triedCost_4 v_Mo_triedCost_0 v_Mo_triedCost_4
