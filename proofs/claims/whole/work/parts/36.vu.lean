noncomputable def tro (d : Dt) (t : Nat → Nat) : Option Nat := osum (fun q => trb d (barm d) q (dp_mk (fun j => t j == q) (nJ d))) (nP d)
/-- the reference's plan is the due one -/
def PLM (σ : MI) : Prop :=
  AV σ 43 ∧ σ 29 21 = nI (barm (vm σ)) ∧ OPT (vm σ) (barm (vm σ)) (agm σ) ∧ (∀ j, j < nJ (vm σ) → σ 44 j = nI (tgm σ j)) ∧ tgs (vm σ) (od (vm σ) (nJ (vm σ))) (agm σ) (nJ (vm σ)) (tgm σ)
def P_Mo_search (σ : MI) (τ : ML) : Prop := Vd (vm σ)
def Q_Mo_search (σ : MI) (τ : ML) (σ' : MI) (τ' : ML) : Prop :=
  τ = τ' ∧ (∀ c, c ∉ [29, 35, 43, 44, 45, 46] → σ' c = σ c) ∧ (∀ i, i ≠ 18 → i ≠ 21 → σ' 29 i = σ 29 i) ∧ σ' 29 18 = 1 ∧ σ' 35 = bump (σ 35) (vm σ) (nP (vm σ)) ∧ PLM σ'
def SF (σ0 σ : MI) : Prop := (∀ c, c ∉ [29, 35, 43, 44, 45, 46] → σ c = σ0 c) ∧ (∀ i, i ≠ 18 → i ≠ 21 → σ 29 i = σ0 29 i) ∧ σ 29 21 = nI (barm (vm σ0)) ∧ σ 35 = bump (σ0 35) (vm σ0) (nP (vm σ0))
theorem SF_vm {σ0 σ : MI} (h : SF σ0 σ) : vm σ = vm σ0 :=
  vm_congr (h.2.1 1 (by decide) (by decide)) (h.2.1 10 (by decide) (by decide)) (h.2.1 8 (by decide) (by decide)) (h.2.1 17 (by decide) (by decide)) (fun c hc => h.1 c (by intro h2; simp only [List.mem_cons, List.not_mem_nil, or_false] at hc h2; omega))
theorem SF_up {σ0 σ σ' : MI} (h : SF σ0 σ) (h' : ∀ c, c ≠ 43 → c ≠ 44 → c ≠ 45 → c ≠ 46 → σ' c = σ c) : SF σ0 σ' := by
  refine ⟨fun c hc => ?_, fun i h1 h2 => ?_, ?_, ?_⟩
  · have hc2 := hc
    simp only [List.mem_cons, List.not_mem_nil, or_false] at hc2
    rw [h' c (by omega) (by omega) (by omega) (by omega)]; exact h.1 c hc
  · rw [h' 29 (by decide) (by decide) (by decide) (by decide)]; exact h.2.1 i h1 h2
  · rw [h' 29 (by decide) (by decide) (by decide) (by decide)]; exact h.2.2.1
  · rw [h' 35 (by decide) (by decide) (by decide) (by decide)]; exact h.2.2.2
def CSP (σ0 σ : MI) (p s : Nat) : Prop := ∀ q T, T < 2 ^ nJ (vm σ0) → (q < p ∨ (q = p ∧ T < s)) → σ 45 (128 * q + T) = fv (trb (vm σ0) (barm (vm σ0)) q T)
def I_Mo_search_6 (σ0 : MI) (τ0 : ML) (x1 : Int32) (σ : MI) (τ : ML) : Prop :=
  Vd (vm σ0) ∧ τ0 = τ ∧ SF σ0 σ ∧ ∃ p, p ≤ nP (vm σ0) ∧ x1 = nI p ∧ CSP σ0 σ p 0
def I_Mo_search_16 (σ0 : MI) (τ0 : ML) (x1 x2 : Int32) (σ : MI) (τ : ML) : Prop :=
  Vd (vm σ0) ∧ τ0 = τ ∧ SF σ0 σ ∧ ∃ p s, p < nP (vm σ0) ∧ s ≤ 2 ^ nJ (vm σ0) ∧ x1 = nI p ∧ x2 = nI s ∧ CSP σ0 σ p s
def I_Mo_search_75 (σ0 : MI) (τ0 : ML) (x1 : Int32) (σ : MI) (τ : ML) : Prop :=
  Vd (vm σ0) ∧ τ0 = τ ∧ SF σ0 σ ∧ CSP σ0 σ (nP (vm σ0)) 0 ∧ ∃ i, i ≤ nJ (vm σ0) ∧ x1 = nI i ∧ ∀ j, j < i → σ 46 j = 0
def I_Mo_search_103 (σ0 : MI) (τ0 : ML) (x1 x2 x3 : Int32) (σ : MI) (τ : ML) : Prop :=
  Vd (vm σ0) ∧ τ0 = τ ∧ SF σ0 σ ∧ CSP σ0 σ (nP (vm σ0)) 0 ∧ (x3 = 1 → AV σ 46) ∧ (x3 = 0 ∨ x3 = 1) ∧
  ((x1 = -1 ∧ x2 = 1000000000 ∧ ∀ v, dgt (nJ (vm σ0)) (nP (vm σ0)) v → (x3 = 0 ∨ llt (nJ (vm σ0)) v (av σ 46)) → tro (vm σ0) v = none) ∨
   (AV σ 43 ∧ ∃ w, tro (vm σ0) (av σ 43) = some w ∧ x1 = nI (cnt (fun j => decide (av σ 43 j < nP (vm σ0))) (nJ (vm σ0))) ∧ x2 = nI w ∧ bst (trb (vm σ0) (barm (vm σ0))) (nJ (vm σ0)) (nP (vm σ0)) (av σ 43) (fun v => x3 = 0 ∨ llt (nJ (vm σ0)) v (av σ 46))))
def I_Mo_search_158 (σ0 : MI) (τ0 : ML) (x1 x2 x6 : Int32) (σ : MI) (τ : ML) : Prop :=
  Vd (vm σ0) ∧ τ0 = τ ∧ SF σ0 σ ∧ CSP σ0 σ (nP (vm σ0)) 0 ∧ AV σ 46 ∧ ∃ i w, i ≤ nJ (vm σ0) ∧ x6 = nI i ∧ tro (vm σ0) (av σ 46) = some w ∧ x1 = nI (cnt (fun j => decide (av σ 46 j < nP (vm σ0))) (nJ (vm σ0))) ∧ x2 = nI w ∧
  bst (trb (vm σ0) (barm (vm σ0))) (nJ (vm σ0)) (nP (vm σ0)) (av σ 46) (fun v => llt (nJ (vm σ0)) v (av σ 46) ∨ leq (nJ (vm σ0)) v (av σ 46)) ∧ ∀ j, j < i → σ 43 j = σ 46 j
def mdg (σ0 σ : MI) : Nat := 2097152 - dp_dig (av σ 46) (2 ^ nJ (vm σ0) - 1) (nJ (vm σ0))
def m_Mo_search_6 (σ0 : MI) (τ0 : ML) (x1 : Int32) (σ : MI) (τ : ML) : Nat := 1000000000 + (5 - x1.toNatClampNeg) * 1000
def m_Mo_search_16 (σ0 : MI) (τ0 : ML) (x1 x2 : Int32) (σ : MI) (τ : ML) : Nat := 1000000000 + (4 - x1.toNatClampNeg) * 1000 + 500 - x2.toNatClampNeg
def m_Mo_search_75 (σ0 : MI) (τ0 : ML) (x1 : Int32) (σ : MI) (τ : ML) : Nat := 300000000 - x1.toNatClampNeg
def m_Mo_search_103 (σ0 : MI) (τ0 : ML) (x1 x2 x3 : Int32) (σ : MI) (τ : ML) : Nat := if x3 = 0 then 0 else mdg σ0 σ * 100 + 50
def m_Mo_search_158 (σ0 : MI) (τ0 : ML) (x1 x2 x6 : Int32) (σ : MI) (τ : ML) : Nat := mdg σ0 σ * 100 + 40 - x6.toNatClampNeg
theorem mdg_le (σ0 σ : MI) : mdg σ0 σ ≤ 2097152 := Nat.sub_le _ _
theorem AV_dgt {σ : MI} {c : Nat} (h : AV σ c) : dgt (nJ (vm σ)) (nP (vm σ)) (av σ c) := fun j hj => (h j hj).2
theorem mdg_lt {σ0 σ σ' : MI} (hd : Vd (vm σ0)) (h : dgt (nJ (vm σ0)) (nP (vm σ0)) (av σ 46)) (h' : dgt (nJ (vm σ0)) (nP (vm σ0)) (av σ' 46)) (hl : llt (nJ (vm σ0)) (av σ 46) (av σ' 46)) : mdg σ0 σ' < mdg σ0 σ := by
  have hn := hd.nJl
  have hnp := hd.nPl
  have h1 := dig_lex hn.1 (fun j hj => by have := h j hj; omega) (fun j hj => by have := h' j hj; omega) hl
  have h2 := dp_dig_lt (a := av σ' 46) hn.1 (fun j hj => by have := h' j hj; omega)
  unfold mdg
  omega
theorem tro_le {d : Dt} (hd : Vd d) {t : Nat → Nat} {w : Nat} (h : tro d t = some w) : w ≤ 8400 := by
  have hnp := hd.nPl
  have := osum_le (B := 2100) (n := nP d) (fun q hq t ht => trb_le hd (by omega) ht) (nP d) (Nat.le_refl _) w h
  omega
theorem tro_ok {d : Dt} (hd : Vd d) (t : Nat → Nat) : dp_ok (trb d (barm d)) (nb (nP d) t) (2 ^ nJ d - 1) (nJ d) (nP d) ↔ ∃ v, tro d t = some v := nb_ok hd.nPl.1 t
theorem tro_congr {d : Dt} {t u : Nat → Nat} (h : leq (nJ d) t u) : tro d t = tro d u := by
  unfold tro
  congr 1
  funext q
  congr 1
  apply Nat.eq_of_testBit_eq
  intro j
  rw [dp_mk_bit, dp_mk_bit]
  by_cases hj : j < nJ d
  · rw [h j hj]
  · simp [hj]
theorem tro_nobody {d : Dt} (hd : Vd d) : ∃ w, tro d (fun _ => nP d) = some w := by
  refine (osum_iff (nP d)).mpr (fun q hq => ⟨0, ?_⟩)
  have : dp_mk (fun j => (fun _ => nP d) j == q) (nJ d) = 0 := by
    apply Nat.eq_of_testBit_eq
    intro j
    rw [dp_mk_bit, Nat.zero_testBit]
    have : ¬ nP d = q := by omega
    simp [this]
  rw [this]
  exact trb_0
theorem nb_leq {n P : Nat} {t u : Nat → Nat} (h : leq n t u) : ∀ j, j < n → nb P t j = nb P u j := fun j hj => by unfold nb; rw [h j hj]
/-- the end of the search -/
theorem bst_OPT {d : Dt} (hd : Vd d) {g : Nat → Nat} (h : bst (trb d (barm d)) (nJ d) (nP d) g (fun _ => True)) : OPT d (barm d) (nb (nP d) g) := by
  refine ⟨h.2.2.1, fun a' ha' => ?_⟩
  have e : ∀ j, j < nJ d → nb (nP d) (fun j => if a' j < nP d then a' j else nP d) j = a' j := by
    intro j hj
    unfold nb
    have := ha'.1 j hj (by rw [Nat.testBit_two_pow_sub_one]; simp [hj])
    by_cases z : a' j < nP d
    · simp [z]
    · rcases this with y | y
      · exact absurd y z
      · show (if (if a' j < nP d then a' j else nP d) < nP d then (if a' j < nP d then a' j else nP d) else 4) = a' j
        rw [if_neg z, if_neg (Nat.lt_irrefl _), y]
  have h1 := h.2.2.2 (fun j => if a' j < nP d then a' j else nP d) (fun j _ => by show (if _ then _ else _) ≤ _; split <;> omega) trivial (dp_ok_congr (fun j hj => (e j hj).symm) ha')
  rw [dp_cost_congr e] at h1
  exact h1
theorem v_Mo_search_0 (σ0 : MI) (τ0 : ML) (h : P_Mo_search σ0 τ0) : s_Mo_search_0 P_Mo_asks Q_Mo_asks P_Mo_isBarred Q_Mo_isBarred P_Mo_cost Q_Mo_cost P_Mo_givesTugs Q_Mo_givesTugs P_Mo_triedMany Q_Mo_triedMany P_Mo_triedCost Q_Mo_triedCost P_Mo_goesOn Q_Mo_goesOn σ0 τ0 (fun z0 σ9 τ9 => I_Mo_search_6 σ0 τ0 z0 σ9 τ9) (fun z0 z1 σ9 τ9 => I_Mo_search_16 σ0 τ0 z0 z1 σ9 τ9) (fun z0 σ9 τ9 => I_Mo_search_75 σ0 τ0 z0 σ9 τ9) (fun z0 z1 z2 σ9 τ9 => I_Mo_search_103 σ0 τ0 z0 z1 z2 σ9 τ9) (fun z0 z1 z2 σ9 τ9 => I_Mo_search_158 σ0 τ0 z0 z1 z2 σ9 τ9) (Q_Mo_search σ0 τ0) := by
  have hd : Vd (vm σ0) := h
  unfold s_Mo_search_0
  refine ⟨hd, fun s t hq => ?_⟩
  obtain ⟨rfl, q1, q2, q3, q4⟩ := hq
  refine ⟨hd, rfl, ⟨fun c hc => ?_, fun i _ h2 => q2 i h2, q3, q4⟩, 0, Nat.zero_le _, rfl, fun q T _ z => by omega⟩
  simp only [List.mem_cons, List.not_mem_nil, or_false] at hc
  exact q1 c (by omega) (by omega)
theorem v_Mo_search_6 (σ0 : MI) (τ0 : ML) (x1 : Int32) (σ : MI) (τ : ML) (h : I_Mo_search_6 σ0 τ0 x1 σ τ) : s_Mo_search_6 P_Mo_asks Q_Mo_asks P_Mo_isBarred Q_Mo_isBarred P_Mo_cost Q_Mo_cost P_Mo_givesTugs Q_Mo_givesTugs P_Mo_triedMany Q_Mo_triedMany P_Mo_triedCost Q_Mo_triedCost P_Mo_goesOn Q_Mo_goesOn σ τ x1 (fun z0 σ9 τ9 => I_Mo_search_6 σ0 τ0 z0 σ9 τ9 ∧ m_Mo_search_6 σ0 τ0 z0 σ9 τ9 < m_Mo_search_6 σ0 τ0 x1 σ τ) (fun z0 z1 σ9 τ9 => I_Mo_search_16 σ0 τ0 z0 z1 σ9 τ9 ∧ m_Mo_search_16 σ0 τ0 z0 z1 σ9 τ9 < m_Mo_search_6 σ0 τ0 x1 σ τ) (fun z0 σ9 τ9 => I_Mo_search_75 σ0 τ0 z0 σ9 τ9 ∧ m_Mo_search_75 σ0 τ0 z0 σ9 τ9 < m_Mo_search_6 σ0 τ0 x1 σ τ) (fun z0 z1 z2 σ9 τ9 => I_Mo_search_103 σ0 τ0 z0 z1 z2 σ9 τ9 ∧ m_Mo_search_103 σ0 τ0 z0 z1 z2 σ9 τ9 < m_Mo_search_6 σ0 τ0 x1 σ τ) (fun z0 z1 z2 σ9 τ9 => I_Mo_search_158 σ0 τ0 z0 z1 z2 σ9 τ9 ∧ m_Mo_search_158 σ0 τ0 z0 z1 z2 σ9 τ9 < m_Mo_search_6 σ0 τ0 x1 σ τ) (Q_Mo_search σ0 τ0) := by
  obtain ⟨hd, rfl, hF, p, hp, rfl, hC⟩ := h
  have hnp := hd.nPl
  have hn := hd.nJl
  have e1 : σ 29 1 = nI (nP (vm σ0)) := by rw [hF.2.1 1 (by decide) (by decide)]; exact vm_1 hd
  have hcp : (nI p).toNatClampNeg = p := nI_clamp (by omega)
  unfold s_Mo_search_6
  rw [e1, nI_leI (by omega) (by omega)]
  refine ⟨fun c => ⟨⟨hd, rfl, hF, ?_, 0, Nat.zero_le _, rfl, fun j hj => absurd hj (Nat.not_lt_zero j)⟩, ?_⟩, fun c => ⟨⟨hd, rfl, hF, p, 0, by omega, Nat.zero_le _, rfl, rfl, hC⟩, ?_⟩⟩
  · have e : p = nP (vm σ0) := by omega
    rw [← e]; exact hC
  · unfold m_Mo_search_6 m_Mo_search_75
    rw [hcp, show ((0 : Int32)).toNatClampNeg = 0 from rfl]
    omega
  · unfold m_Mo_search_6 m_Mo_search_16
    rw [hcp, show ((0 : Int32)).toNatClampNeg = 0 from rfl]
    omega
theorem v_Mo_search_16 (σ0 : MI) (τ0 : ML) (x1 : Int32) (x2 : Int32) (σ : MI) (τ : ML) (h : I_Mo_search_16 σ0 τ0 x1 x2 σ τ) : s_Mo_search_16 P_Mo_asks Q_Mo_asks P_Mo_isBarred Q_Mo_isBarred P_Mo_cost Q_Mo_cost P_Mo_givesTugs Q_Mo_givesTugs P_Mo_triedMany Q_Mo_triedMany P_Mo_triedCost Q_Mo_triedCost P_Mo_goesOn Q_Mo_goesOn σ τ x1 x2 (fun z0 σ9 τ9 => I_Mo_search_6 σ0 τ0 z0 σ9 τ9 ∧ m_Mo_search_6 σ0 τ0 z0 σ9 τ9 < m_Mo_search_16 σ0 τ0 x1 x2 σ τ) (fun z0 z1 σ9 τ9 => I_Mo_search_16 σ0 τ0 z0 z1 σ9 τ9 ∧ m_Mo_search_16 σ0 τ0 z0 z1 σ9 τ9 < m_Mo_search_16 σ0 τ0 x1 x2 σ τ) (fun z0 σ9 τ9 => I_Mo_search_75 σ0 τ0 z0 σ9 τ9 ∧ m_Mo_search_75 σ0 τ0 z0 σ9 τ9 < m_Mo_search_16 σ0 τ0 x1 x2 σ τ) (fun z0 z1 z2 σ9 τ9 => I_Mo_search_103 σ0 τ0 z0 z1 z2 σ9 τ9 ∧ m_Mo_search_103 σ0 τ0 z0 z1 z2 σ9 τ9 < m_Mo_search_16 σ0 τ0 x1 x2 σ τ) (fun z0 z1 z2 σ9 τ9 => I_Mo_search_158 σ0 τ0 z0 z1 z2 σ9 τ9 ∧ m_Mo_search_158 σ0 τ0 z0 z1 z2 σ9 τ9 < m_Mo_search_16 σ0 τ0 x1 x2 σ τ) (Q_Mo_search σ0 τ0) := by
  obtain ⟨hd, rfl, hF, p, s, hp, hs, rfl, rfl, hC⟩ := h
  have hnp := hd.nPl
  have hn := hd.nJl
  have hp7 : 2 ^ nJ (vm σ0) ≤ 2 ^ 7 := Nat.pow_le_pow_right (by decide) hn.1
  have evm := SF_vm hF
  have e10 : σ 29 10 = nI (nJ (vm σ0)) := by rw [hF.2.1 10 (by decide) (by decide)]; exact vm_8 hd
  have hcp : (nI p).toNatClampNeg = p := nI_clamp (by omega)
  have hcs : (nI s).toNatClampNeg = s := nI_clamp (by omega)
  have hbl := barm_lt hd
  unfold s_Mo_search_16
  rw [e10, zb_one (by omega), nI_leI (by omega) (by omega)]
  refine ⟨fun c y hy => ⟨⟨hd, rfl, hF, p + 1, by omega, by rw [hy, nI_1], fun q T hT z => hC q T hT (by omega)⟩, ?_⟩, fun c => ?_⟩
  · unfold m_Mo_search_6 m_Mo_search_16
    rw [hy, nI_1, hcp, hcs, nI_clamp (by omega)]
    omega
  · have hlt : s < 2 ^ nJ (vm σ0) := by omega
    have eix : 128 * nI p + nI s = nI (128 * p + s) := by
      have : (128 : Int32) = nI 128 := rfl
      rw [this, nI_mul, nI_add]
    have hin : vp_in (nI (128 * p + s)) 512 := vp_in_nI (by omega) (by decide)
    have hcx : (nI (128 * p + s)).toNatClampNeg = 128 * p + s := nI_clamp (by omega)
    have hend : ∀ (v y : Int32) (s60 : MI), s60 = st2 σ 45 (128 * p + s) v → v = fv (trb (vm σ0) (barm (vm σ0)) p s) → y = nI s + 1 → I_Mo_search_16 σ0 τ0 (nI p) y s60 τ0 ∧ m_Mo_search_16 σ0 τ0 (nI p) y s60 τ0 < m_Mo_search_16 σ0 τ0 (nI p) (nI s) σ τ0 := by
      intro v y s60 h60 hv hy
      refine ⟨⟨hd, rfl, SF_up hF (fun c _ _ h3 _ => by rw [h60, st2_ne h3]), p, s + 1, hp, by omega, rfl, by rw [hy, nI_1], fun q T hT z => ?_⟩, ?_⟩
      · rw [h60, st2_at]
        by_cases w : q = p ∧ T = s
        · obtain ⟨rfl, rfl⟩ := w
          rw [if_pos ⟨rfl, rfl⟩, hv]
        · rw [if_neg (by omega)]
          exact hC q T hT (by omega)
      · unfold m_Mo_search_16
        rw [hy, nI_1, hcp, hcs, nI_clamp (by omega)]
        omega
    rw [eix, hcx]
    refine ⟨trivial, fun r39 s39 t39 hq => ?_⟩
    obtain ⟨rfl, rfl, hr⟩ := hq
    rw [hF.2.2.1, bit_1 (by omega) (by omega)] at hr
    have hcost : (barm (vm σ0)).testBit p = false ∨ s = 0 → ∀ r57, r57 = fv (trv (vm σ) (od (vm σ) (nJ (vm σ))) (nI p).toNatClampNeg (nI s).toNatClampNeg (nJ (vm σ))) → r57 = fv (trb (vm σ0) (barm (vm σ0)) p s) := by
      intro hz r57 h57
      rw [evm, hcp, hcs] at h57
      rw [h57]
      congr 1
      by_cases z : s = 0
      · subst z; rw [trb_0, trv_0]
      · have hb : (barm (vm σ0)).testBit p = false := hz.resolve_right z
        unfold trb
        rw [if_neg (by rw [hb]; decide)]
    have hPc : P_Mo_cost σ τ0 (nI p) (nI s) := ⟨by rw [evm]; exact hd, vp_in_nI (by omega) (by decide), by rw [evm]; exact vp_in_nI hlt (by omega)⟩
    refine ⟨fun c2 => ⟨hPc, fun r57 s57 t57 hq => ?_⟩, fun c2 => ⟨fun c3 => ⟨hPc, fun r57 s57 t57 hq => ?_⟩, fun c3 => ?_⟩⟩
    · obtain ⟨rfl, rfl, hq⟩ := hq
      have hb : (barm (vm σ0)).testBit p = false := by have := rb_0 hr c2; simpa using this
      exact ⟨hin, fun s60 h60 y hy => hend _ y s60 h60 (hcost (Or.inl hb) _ hq) hy⟩
    · obtain ⟨rfl, rfl, hq⟩ := hq
      have hz : s = 0 := by
        rw [z_le, zc_0, z_nI (by omega)] at c3
        omega
      exact ⟨hin, fun s60 h60 y hy => hend _ y s60 h60 (hcost (Or.inr hz) _ hq) hy⟩
    · have hz : ¬ s = 0 := by
        rw [z_le, zc_0, z_nI (by omega)] at c3
        omega
      refine ⟨hin, fun s60 h60 y hy => hend _ y s60 h60 ?_ hy⟩
      unfold trb
      rw [if_pos (rb_1 hr c2), if_neg hz]
      rfl
theorem v_Mo_search_75 (σ0 : MI) (τ0 : ML) (x1 : Int32) (σ : MI) (τ : ML) (h : I_Mo_search_75 σ0 τ0 x1 σ τ) : s_Mo_search_75 P_Mo_asks Q_Mo_asks P_Mo_isBarred Q_Mo_isBarred P_Mo_cost Q_Mo_cost P_Mo_givesTugs Q_Mo_givesTugs P_Mo_triedMany Q_Mo_triedMany P_Mo_triedCost Q_Mo_triedCost P_Mo_goesOn Q_Mo_goesOn σ τ x1 (fun z0 σ9 τ9 => I_Mo_search_6 σ0 τ0 z0 σ9 τ9 ∧ m_Mo_search_6 σ0 τ0 z0 σ9 τ9 < m_Mo_search_75 σ0 τ0 x1 σ τ) (fun z0 z1 σ9 τ9 => I_Mo_search_16 σ0 τ0 z0 z1 σ9 τ9 ∧ m_Mo_search_16 σ0 τ0 z0 z1 σ9 τ9 < m_Mo_search_75 σ0 τ0 x1 σ τ) (fun z0 σ9 τ9 => I_Mo_search_75 σ0 τ0 z0 σ9 τ9 ∧ m_Mo_search_75 σ0 τ0 z0 σ9 τ9 < m_Mo_search_75 σ0 τ0 x1 σ τ) (fun z0 z1 z2 σ9 τ9 => I_Mo_search_103 σ0 τ0 z0 z1 z2 σ9 τ9 ∧ m_Mo_search_103 σ0 τ0 z0 z1 z2 σ9 τ9 < m_Mo_search_75 σ0 τ0 x1 σ τ) (fun z0 z1 z2 σ9 τ9 => I_Mo_search_158 σ0 τ0 z0 z1 z2 σ9 τ9 ∧ m_Mo_search_158 σ0 τ0 z0 z1 z2 σ9 τ9 < m_Mo_search_75 σ0 τ0 x1 σ τ) (Q_Mo_search σ0 τ0) := by
  obtain ⟨hd, rfl, hF, hC, i, hi, rfl, h0⟩ := h
  have hnp := hd.nPl
  have hn := hd.nJl
  have evm := SF_vm hF
  have e10 : σ 29 10 = nI (nJ (vm σ0)) := by rw [hF.2.1 10 (by decide) (by decide)]; exact vm_8 hd
  have hci : (nI i).toNatClampNeg = i := nI_clamp (by omega)
  unfold s_Mo_search_75
  rw [e10, nI_leI (by omega) (by omega), hci]
  refine ⟨fun c y hy => ?_, fun c => ⟨vp_in_nI (by omega) (by decide), fun s89 h89 y hy => ⟨⟨hd, rfl, SF_up hF (fun c _ _ _ h4 => by rw [h89, st2_ne h4]), fun q T hT z => by rw [h89, st2_ne (by decide)]; exact hC q T hT z, i + 1, by omega, by rw [hy, nI_1], fun j hj => ?_⟩, ?_⟩⟩⟩
  · have e : i = nJ (vm σ0) := by omega
    subst e
    have hav : ∀ j, j < nJ (vm σ0) → av σ 46 j = 0 := fun j hj => by unfold av; rw [h0 j hj]; rfl
    refine ⟨⟨hd, rfl, hF, hC, fun _ j hj => ?_, Or.inr rfl, Or.inl ⟨hy, rfl, fun v _ hs => ?_⟩⟩, ?_⟩
    · rw [evm] at hj
      rw [hav j hj, h0 j hj]
      exact ⟨rfl, Nat.zero_le _⟩
    · rcases hs with z | z
      · exact absurd z (by decide)
      · exact absurd z (llt_zero hav)
    · unfold m_Mo_search_103 m_Mo_search_75
      have := mdg_le σ0 σ
      rw [if_neg (by decide), hci]
      omega
  · rw [h89, st2_at]
    by_cases z : j = i
    · rw [if_pos ⟨rfl, z⟩]
    · rw [if_neg (fun q => z q.2)]; exact h0 j (by omega)
  · unfold m_Mo_search_75
    rw [hy, nI_1, hci, nI_clamp (by omega)]
    omega
/-- behind a step, or the last one -/
theorem srch_on {σ0 : MI} {τ0 : ML} {s : MI} {x1 x2 r : Int32} {s' : MI} (hd : Vd (vm σ0)) (hF : SF σ0 s) (hC : CSP σ0 s (nP (vm σ0)) 0) (hA : AV s 46) (hq : Q_Mo_goesOn s τ0 r s' τ0)
    (hb : (x1 = -1 ∧ x2 = 1000000000 ∧ ∀ v, dgt (nJ (vm σ0)) (nP (vm σ0)) v → (llt (nJ (vm σ0)) v (av s 46) ∨ leq (nJ (vm σ0)) v (av s 46)) → tro (vm σ0) v = none) ∨
     (AV s 43 ∧ ∃ w, tro (vm σ0) (av s 43) = some w ∧ x1 = nI (cnt (fun j => decide (av s 43 j < nP (vm σ0))) (nJ (vm σ0))) ∧ x2 = nI w ∧ bst (trb (vm σ0) (barm (vm σ0))) (nJ (vm σ0)) (nP (vm σ0)) (av s 43) (fun v => llt (nJ (vm σ0)) v (av s 46) ∨ leq (nJ (vm σ0)) v (av s 46)))) :
    I_Mo_search_103 σ0 τ0 x1 x2 r s' τ0 ∧ m_Mo_search_103 σ0 τ0 x1 x2 r s' τ0 < mdg σ0 s * 100 + 20 := by
  have hnp := hd.nPl
  have hn := hd.nJl
  have evm := SF_vm hF
  obtain ⟨-, hc, hr⟩ := hq
  have hF' : SF σ0 s' := SF_up hF (fun c _ _ _ h4 => hc c h4)
  have evm' := SF_vm hF'
  have hC' : CSP σ0 s' (nP (vm σ0)) 0 := fun q T hT z => by rw [hc 45 (by decide)]; exact hC q T hT z
  have e43 : av s' 43 = av s 43 := by unfold av; rw [hc 43 (by decide)]
  have hA43 : AV s 43 → AV s' 43 := fun h j hj => by
    rw [evm'] at hj ⊢
    rw [e43, hc 43 (by decide)]
    have := h j (by rw [evm]; exact hj)
    rw [evm] at this
    exact this
  have hdg : dgt (nJ (vm σ0)) (nP (vm σ0)) (av s 46) := by have := AV_dgt hA; rw [evm] at this; exact this
  -- what is seen
  have key : (r = 1 → AV s' 46) ∧ (r = 0 ∨ r = 1) ∧ (∀ v, dgt (nJ (vm σ0)) (nP (vm σ0)) v → (r = 0 ∨ llt (nJ (vm σ0)) v (av s' 46)) → llt (nJ (vm σ0)) v (av s 46) ∨ leq (nJ (vm σ0)) v (av s 46)) ∧ (∀ v, dgt (nJ (vm σ0)) (nP (vm σ0)) v → (llt (nJ (vm σ0)) v (av s 46) ∨ leq (nJ (vm σ0)) v (av s 46)) → (r = 0 ∨ llt (nJ (vm σ0)) v (av s' 46))) ∧ (r = 0 ∨ mdg σ0 s' < mdg σ0 s) := by
    rcases hr with ⟨rfl, hall⟩ | ⟨rfl, j, hj, h1, h2, h3, h4⟩
    · rw [evm] at hall
      exact ⟨fun z => absurd z (by decide), Or.inl rfl, fun v hv _ => llt_last hall hv, fun _ _ _ => Or.inl rfl, Or.inl rfl⟩
    · rw [evm] at hj h1 h4
      have u1 : av s' 46 j = av s 46 j + 1 := av_of (by omega) h2
      have u2 : ∀ i, i < j → av s' 46 i = av s 46 i := fun i hi => by unfold av; rw [h3 i hi]
      have u3 : ∀ i, j < i → i < nJ (vm σ0) → av s 46 i = nP (vm σ0) ∧ av s' 46 i = 0 := fun i h5 h6 => ⟨(h4 i h5 h6).1, av_of (by decide) (h4 i h5 h6).2⟩
      have hst : stp (nJ (vm σ0)) (nP (vm σ0)) (av s 46) (av s' 46) := ⟨j, hj, h1, u1, u2, u3⟩
      have hA' : AV s' 46 := by
        intro i hi
        rw [evm'] at hi ⊢
        rcases Nat.lt_trichotomy i j with z | z | z
        · rw [u2 i z, h3 i z]
          have := hA i (by rw [evm]; exact hi)
          rw [evm] at this
          exact this
        · subst z
          rw [u1]
          exact ⟨h2, by omega⟩
        · rw [(u3 i z hi).2]
          exact ⟨(h4 i z hi).2, Nat.zero_le _⟩
      have hdg' : dgt (nJ (vm σ0)) (nP (vm σ0)) (av s' 46) := by have := AV_dgt hA'; rw [evm'] at this; exact this
      refine ⟨fun _ => hA', Or.inr rfl, fun v hv hs => ?_, fun v hv hs => Or.inr ?_, Or.inr (mdg_lt hd hdg hdg' (stp_self hst))⟩
      · rcases hs with z | z
        · exact absurd z (by decide)
        · exact stp_llt hst hv z
      · rcases hs with z | z
        · exact llt_trans z (stp_self hst)
        · exact llt_leq z (stp_self hst)
  obtain ⟨k1, k2, k3, k4, k5⟩ := key
  refine ⟨⟨hd, rfl, hF', hC', k1, k2, ?_⟩, ?_⟩
  · rcases hb with ⟨b1, b2, b3⟩ | ⟨b1, w, b2, b3, b4, b5⟩
    · exact Or.inl ⟨b1, b2, fun v hv hs => b3 v hv (k3 v hv hs)⟩
    · refine Or.inr ⟨hA43 b1, w, by rw [e43]; exact b2, by rw [e43]; exact b3, b4, ?_⟩
      rw [e43]
      exact ⟨b5.1, k4 _ b5.1 b5.2.1, b5.2.2.1, fun v hv hs ho => b5.2.2.2 v hv (k3 v hv hs) ho⟩
  · unfold m_Mo_search_103
    rcases k5 with z | z
    · rw [if_pos z]; omega
    · split <;> omega
theorem bst_leq {d : Dt} {t v : Nat → Nat} (h : leq (nJ d) v t) : dp_cost (trb d (barm d)) (nb (nP d) v) (2 ^ nJ d - 1) (nJ d) (nP d) = dp_cost (trb d (barm d)) (nb (nP d) t) (2 ^ nJ d - 1) (nJ d) (nP d) := dp_cost_congr (nb_leq h)
theorem v_Mo_search_103 (σ0 : MI) (τ0 : ML) (x1 : Int32) (x2 : Int32) (x3 : Int32) (σ : MI) (τ : ML) (h : I_Mo_search_103 σ0 τ0 x1 x2 x3 σ τ) : s_Mo_search_103 P_Mo_asks Q_Mo_asks P_Mo_isBarred Q_Mo_isBarred P_Mo_cost Q_Mo_cost P_Mo_givesTugs Q_Mo_givesTugs P_Mo_triedMany Q_Mo_triedMany P_Mo_triedCost Q_Mo_triedCost P_Mo_goesOn Q_Mo_goesOn σ τ x1 x2 x3 (fun z0 σ9 τ9 => I_Mo_search_6 σ0 τ0 z0 σ9 τ9 ∧ m_Mo_search_6 σ0 τ0 z0 σ9 τ9 < m_Mo_search_103 σ0 τ0 x1 x2 x3 σ τ) (fun z0 z1 σ9 τ9 => I_Mo_search_16 σ0 τ0 z0 z1 σ9 τ9 ∧ m_Mo_search_16 σ0 τ0 z0 z1 σ9 τ9 < m_Mo_search_103 σ0 τ0 x1 x2 x3 σ τ) (fun z0 σ9 τ9 => I_Mo_search_75 σ0 τ0 z0 σ9 τ9 ∧ m_Mo_search_75 σ0 τ0 z0 σ9 τ9 < m_Mo_search_103 σ0 τ0 x1 x2 x3 σ τ) (fun z0 z1 z2 σ9 τ9 => I_Mo_search_103 σ0 τ0 z0 z1 z2 σ9 τ9 ∧ m_Mo_search_103 σ0 τ0 z0 z1 z2 σ9 τ9 < m_Mo_search_103 σ0 τ0 x1 x2 x3 σ τ) (fun z0 z1 z2 σ9 τ9 => I_Mo_search_158 σ0 τ0 z0 z1 z2 σ9 τ9 ∧ m_Mo_search_158 σ0 τ0 z0 z1 z2 σ9 τ9 < m_Mo_search_103 σ0 τ0 x1 x2 x3 σ τ) (Q_Mo_search σ0 τ0) := by
  obtain ⟨hd, rfl, hF, hC, hA, h3, hb⟩ := h
  have hnp := hd.nPl
  have hn := hd.nJl
  have evm := SF_vm hF
  unfold s_Mo_search_103
  refine ⟨fun c s197 h197 => ?_, fun c => ?_⟩
  · subst c
    rcases hb with ⟨-, -, b3⟩ | ⟨b1, w, b2, b3, b4, b5⟩
    · obtain ⟨w, hw⟩ := tro_nobody hd
      rw [b3 (fun _ => nP (vm σ0)) (fun j _ => Nat.le_refl _) (Or.inl rfl)] at hw
      cases hw
    · have ev197 : vm s197 = vm σ0 := by
        rw [← evm]
        refine vm_congr ?_ ?_ ?_ ?_ (fun c hc => ?_)
        · rw [h197, st2_at, if_neg (by decide)]
        · rw [h197, st2_at, if_neg (by decide)]
        · rw [h197, st2_at, if_neg (by decide)]
        · rw [h197, st2_at, if_neg (by decide)]
        · rw [h197, st2_ne (by intro h2; subst h2; revert hc; decide)]
      have e43 : s197 43 = σ 43 := by rw [h197, st2_ne (by decide)]
      have ea43 : av s197 43 = av σ 43 := by unfold av; rw [e43]
      have hA197 : AV s197 43 := fun j hj => by
        rw [ev197] at hj ⊢
        rw [ea43, e43]
        have := b1 j (by rw [evm]; exact hj)
        rw [evm] at this
        exact this
      refine ⟨⟨by rw [ev197]; exact hd, hA197⟩, fun s201 t201 hq => ?_⟩
      obtain ⟨rfl, q1, q2, q3⟩ := hq
      have ev201 : vm s201 = vm σ0 := by rw [vm_44 q1]; exact ev197
      have ea201 : av s201 43 = av σ 43 := by unfold av; rw [q1 43 (by decide), e43]
      have eag : agm s201 = nb (nP (vm σ0)) (av σ 43) := by unfold agm; rw [ev201, ea201]
      have eag2 : agm s197 = nb (nP (vm σ0)) (av σ 43) := by unfold agm; rw [ev197, ea43]
      rw [ev197, eag2] at q3
      rw [ev197] at q2
      refine ⟨rfl, fun c hc => ?_, fun i h1 h2 => ?_, ?_, ?_, ?_, ?_, ?_, ?_, ?_⟩
      · have hc2 := hc
        simp only [List.mem_cons, List.not_mem_nil, or_false] at hc2
        rw [q1 c (by omega), h197, st2_ne (by omega)]
        exact hF.1 c hc
      · rw [q1 29 (by decide), h197, st2_at, if_neg (by omega)]
        exact hF.2.1 i h1 h2
      · rw [q1 29 (by decide), h197, st2_at, if_pos ⟨rfl, rfl⟩]
      · rw [q1 35 (by decide), h197, st2_ne (by decide)]
        exact hF.2.2.2
      · intro j hj
        have := hA197 j (by rw [ev197]; rw [ev201] at hj; exact hj)
        rw [ev197] at this
        rw [ev201, ea201, q1 43 (by decide), ← ea43]
        exact this
      · rw [q1 29 (by decide), h197, st2_at, if_neg (by decide), ev201]
        exact hF.2.2.1
      · rw [ev201, eag]
        exact bst_OPT hd ⟨b5.1, trivial, b5.2.2.1, fun v hv _ ho => b5.2.2.2 v hv (Or.inl rfl) ho⟩
      · rw [ev201]; exact q2
      · rw [ev201, eag]; exact q3
  · have e3 : x3 = 1 := h3.resolve_left c
    have hA46 := hA e3
    subst e3
    have hdg : dgt (nJ (vm σ0)) (nP (vm σ0)) (av σ 46) := by have := AV_dgt hA46; rw [evm] at this; exact this
    have hPg : P_Mo_goesOn σ τ0 := ⟨by rw [evm]; exact hd, hA46⟩
    have hcn := cnt_le (fun j => decide (av σ 46 j < nP (vm σ0))) (nJ (vm σ0))
    have hcg := cnt_le (fun j => decide (av σ 43 j < nP (vm σ0))) (nJ (vm σ0))
    refine ⟨⟨by rw [evm]; exact hd, hA46⟩, fun r108 s108 t108 hq => ?_⟩
    obtain ⟨rfl, rfl, rfl⟩ := hq
    rw [evm]
    have hPc : P_Mo_triedCost σ τ0 := by
      refine ⟨by rw [evm]; exact hd, hA46, fun q T hq hT => ?_⟩
      rw [evm] at hq hT ⊢
      exact hC q T hT (Or.inl hq)
    have e125 : fv (osum (trt σ) (nP (vm σ))) = fv (tro (vm σ0) (av σ 46)) := by unfold trt tro; rw [evm]
    have hskip : ∀ r s t, Q_Mo_goesOn σ τ0 r s t → ((x1 = -1 ∧ x2 = 1000000000 ∧ ∀ v, dgt (nJ (vm σ0)) (nP (vm σ0)) v → (llt (nJ (vm σ0)) v (av σ 46) ∨ leq (nJ (vm σ0)) v (av σ 46)) → tro (vm σ0) v = none) ∨
     (AV σ 43 ∧ ∃ w, tro (vm σ0) (av σ 43) = some w ∧ x1 = nI (cnt (fun j => decide (av σ 43 j < nP (vm σ0))) (nJ (vm σ0))) ∧ x2 = nI w ∧ bst (trb (vm σ0) (barm (vm σ0))) (nJ (vm σ0)) (nP (vm σ0)) (av σ 43) (fun v => llt (nJ (vm σ0)) v (av σ 46) ∨ leq (nJ (vm σ0)) v (av σ 46)))) → I_Mo_search_103 σ0 τ0 x1 x2 r s t ∧ m_Mo_search_103 σ0 τ0 x1 x2 r s t < m_Mo_search_103 σ0 τ0 x1 x2 1 σ τ0 := by
      intro r s t hq hb
      obtain ⟨rfl, hq2⟩ := id hq
      have := srch_on hd hF hC hA46 hq hb
      refine ⟨this.1, Nat.lt_trans this.2 ?_⟩
      unfold m_Mo_search_103
      rw [if_neg (by decide)]
      omega
    have htake : ∀ w, tro (vm σ0) (av σ 46) = some w → bst (trb (vm σ0) (barm (vm σ0))) (nJ (vm σ0)) (nP (vm σ0)) (av σ 46) (fun v => llt (nJ (vm σ0)) v (av σ 46) ∨ leq (nJ (vm σ0)) v (av σ 46)) → I_Mo_search_158 σ0 τ0 (nI (cnt (fun j => decide (av σ 46 j < nP (vm σ0))) (nJ (vm σ0)))) (fv (tro (vm σ0) (av σ 46))) 0 σ τ0 ∧ m_Mo_search_158 σ0 τ0 (nI (cnt (fun j => decide (av σ 46 j < nP (vm σ0))) (nJ (vm σ0)))) (fv (tro (vm σ0) (av σ 46))) 0 σ τ0 < m_Mo_search_103 σ0 τ0 x1 x2 1 σ τ0 := by
      intro w hw hbst
      refine ⟨⟨hd, rfl, hF, hC, hA46, 0, w, Nat.zero_le _, rfl, hw, rfl, by rw [hw]; rfl, hbst, fun j hj => absurd hj (Nat.not_lt_zero j)⟩, ?_⟩
      unfold m_Mo_search_103 m_Mo_search_158
      rw [if_neg (by decide), show ((0 : Int32)).toNatClampNeg = 0 from rfl]
      omega
    have hself : ∀ v, leq (nJ (vm σ0)) v (av σ 46) → tro (vm σ0) v = tro (vm σ0) (av σ 46) := fun v hv => tro_congr hv
    rcases hb with ⟨b1, b2, b3⟩ | ⟨b1, w, b2, b3, b4, b5⟩
    · -- nothing found as yet
      refine ⟨fun c1 => ⟨hPc, fun r125 s125 t125 hq => ?_⟩, fun c1 => ?_⟩
      · obtain ⟨rfl, rfl, rfl⟩ := hq
        rw [e125]
        unfold s_Mo_search_130
        cases hx : tro (vm σ0) (av σ 46) with
        | none =>
          refine ⟨fun _ => ⟨hPg, fun r s t hq => hskip r s t hq (Or.inl ⟨b1, b2, fun v hv hs => ?_⟩)⟩, fun c2 => absurd (by decide) c2⟩
          rcases hs with z | z
          · exact b3 v hv (Or.inr z)
          · rw [hself v z]; exact hx
        | some w' =>
          have hw' := tro_le hd hx
          have hok := (tro_ok hd (av σ 46)).mpr ⟨w', hx⟩
          have hbst : bst (trb (vm σ0) (barm (vm σ0))) (nJ (vm σ0)) (nP (vm σ0)) (av σ 46) (fun v => llt (nJ (vm σ0)) v (av σ 46) ∨ leq (nJ (vm σ0)) v (av σ 46)) := by
            refine ⟨hdg, Or.inr (fun j _ => rfl), hok, fun v hv hs ho => ?_⟩
            rcases hs with z | z
            · obtain ⟨u, hu⟩ := (tro_ok hd v).mp ho
              rw [b3 v hv (Or.inr z)] at hu
              cases hu
            · exact Nat.le_of_eq (bst_leq z).symm
          have ht := htake w' hx hbst
          rw [hx] at ht
          refine ⟨fun c2 => ?_, fun _ => ⟨fun _ => ht, fun c3 => ?_⟩⟩
          · rw [z_le, zc_far] at c2
            unfold fv at c2
            rw [z_nI (by omega)] at c2
            omega
          · rw [b1, z_lt, zc_m1, z_nI (by omega)] at c3
            omega
      · rw [b1, z_le, zc_m1, z_nI (by omega)] at c1
        omega
    · have hw := tro_le hd b2
      have hbs : ∀ v, dgt (nJ (vm σ0)) (nP (vm σ0)) v → llt (nJ (vm σ0)) v (av σ 46) → dp_ok (trb (vm σ0) (barm (vm σ0))) (nb (nP (vm σ0)) v) (2 ^ nJ (vm σ0) - 1) (nJ (vm σ0)) (nP (vm σ0)) → dp_cost (trb (vm σ0) (barm (vm σ0))) (nb (nP (vm σ0)) (av σ 43)) (2 ^ nJ (vm σ0) - 1) (nJ (vm σ0)) (nP (vm σ0)) ≤ dp_cost (trb (vm σ0) (barm (vm σ0))) (nb (nP (vm σ0)) v) (2 ^ nJ (vm σ0) - 1) (nJ (vm σ0)) (nP (vm σ0)) := fun v hv hl ho => b5.2.2.2 v hv (Or.inr hl) ho
      have hgl : llt (nJ (vm σ0)) (av σ 43) (av σ 46) := by
        rcases b5.2.1 with z | z
        · exact absurd z (by decide)
        · exact z
      have hsk2 : (∀ w', tro (vm σ0) (av σ 46) = some w' → dp_cost (trb (vm σ0) (barm (vm σ0))) (nb (nP (vm σ0)) (av σ 43)) (2 ^ nJ (vm σ0) - 1) (nJ (vm σ0)) (nP (vm σ0)) ≤ dp_cost (trb (vm σ0) (barm (vm σ0))) (nb (nP (vm σ0)) (av σ 46)) (2 ^ nJ (vm σ0) - 1) (nJ (vm σ0)) (nP (vm σ0))) → ∀ r s t, Q_Mo_goesOn σ τ0 r s t → I_Mo_search_103 σ0 τ0 x1 x2 r s t ∧ m_Mo_search_103 σ0 τ0 x1 x2 r s t < m_Mo_search_103 σ0 τ0 x1 x2 1 σ τ0 := by
        intro hle r s t hq
        refine hskip r s t hq (Or.inr ⟨b1, w, b2, b3, b4, b5.1, Or.inl hgl, b5.2.2.1, fun v hv hs ho => ?_⟩)
        rcases hs with z | z
        · exact hbs v hv z ho
        · obtain ⟨u, hu⟩ := (tro_ok hd v).mp ho
          rw [bst_leq z]
          exact hle u (by rw [← hself v z]; exact hu)
      rw [b3, nI_leI (by omega) (by omega)]
      refine ⟨fun c1 => ⟨hPc, fun r125 s125 t125 hq => ?_⟩, fun c1 => ?_⟩
      · obtain ⟨rfl, rfl, rfl⟩ := hq
        rw [e125]
        unfold s_Mo_search_130
        rw [b4, nI_ltI (by omega) (by omega)]
        rw [b3, b4] at hsk2 htake
        cases hx : tro (vm σ0) (av σ 46) with
        | none =>
          exact ⟨fun _ => ⟨hPg, fun r s t hq => hsk2 (fun w' hw' => by rw [hx] at hw'; cases hw') r s t hq⟩, fun c2 => absurd (by decide) c2⟩
        | some w' =>
          have hw' := tro_le hd hx
          have hok := (tro_ok hd (av σ 46)).mpr ⟨w', hx⟩
          have hbst : dp_cost (trb (vm σ0) (barm (vm σ0))) (nb (nP (vm σ0)) (av σ 46)) (2 ^ nJ (vm σ0) - 1) (nJ (vm σ0)) (nP (vm σ0)) < dp_cost (trb (vm σ0) (barm (vm σ0))) (nb (nP (vm σ0)) (av σ 43)) (2 ^ nJ (vm σ0) - 1) (nJ (vm σ0)) (nP (vm σ0)) → bst (trb (vm σ0) (barm (vm σ0))) (nJ (vm σ0)) (nP (vm σ0)) (av σ 46) (fun v => llt (nJ (vm σ0)) v (av σ 46) ∨ leq (nJ (vm σ0)) v (av σ 46)) := by
            intro hlt
            refine ⟨hdg, Or.inr (fun j _ => rfl), hok, fun v hv hs ho => ?_⟩
            rcases hs with z | z
            · exact Nat.le_trans (Nat.le_of_lt hlt) (hbs v hv z ho)
            · exact Nat.le_of_eq (bst_leq z).symm
          have ht := fun hlt => htake w' hx (hbst hlt)
          rw [hx] at ht
          have efv : fv (some w') = nI w' := rfl
          rw [efv] at ht ⊢
          rw [nI_leI (a := w) (b := w') (by omega) (by omega)]
          refine ⟨fun c2 => ?_, fun _ => ⟨fun c3 => ht (cost_lt hn.1 hnp.1 b2 hx hw hw' (Or.inl c3)), fun c3 => ⟨fun c4 => ⟨hPg, fun r s t hq => hsk2 (fun u hu => ?_) r s t hq⟩, fun c4 => ht (cost_lt hn.1 hnp.1 b2 hx hw hw' (Or.inr ⟨by omega, by omega⟩))⟩⟩⟩
          · rw [z_le, zc_far, z_nI (by omega)] at c2
            omega
          · exact cost_le hn.1 hnp.1 b2 hx hdg hgl ⟨by omega, c4⟩
      · unfold s_Mo_search_130
        rw [b3, b4] at hsk2
        rw [b4]
        refine ⟨fun _ => ⟨hPg, fun r s t hq => hsk2 (fun u hu => ?_) r s t hq⟩, fun c2 => absurd (by decide) c2⟩
        exact Nat.le_of_lt (cost_lt hn.1 hnp.1 hu b2 (tro_le hd hu) hw (Or.inl (by omega)))
theorem v_Mo_search_158 (σ0 : MI) (τ0 : ML) (x1 : Int32) (x2 : Int32) (x6 : Int32) (σ : MI) (τ : ML) (h : I_Mo_search_158 σ0 τ0 x1 x2 x6 σ τ) : s_Mo_search_158 P_Mo_asks Q_Mo_asks P_Mo_isBarred Q_Mo_isBarred P_Mo_cost Q_Mo_cost P_Mo_givesTugs Q_Mo_givesTugs P_Mo_triedMany Q_Mo_triedMany P_Mo_triedCost Q_Mo_triedCost P_Mo_goesOn Q_Mo_goesOn σ τ x1 x2 x6 (fun z0 σ9 τ9 => I_Mo_search_6 σ0 τ0 z0 σ9 τ9 ∧ m_Mo_search_6 σ0 τ0 z0 σ9 τ9 < m_Mo_search_158 σ0 τ0 x1 x2 x6 σ τ) (fun z0 z1 σ9 τ9 => I_Mo_search_16 σ0 τ0 z0 z1 σ9 τ9 ∧ m_Mo_search_16 σ0 τ0 z0 z1 σ9 τ9 < m_Mo_search_158 σ0 τ0 x1 x2 x6 σ τ) (fun z0 σ9 τ9 => I_Mo_search_75 σ0 τ0 z0 σ9 τ9 ∧ m_Mo_search_75 σ0 τ0 z0 σ9 τ9 < m_Mo_search_158 σ0 τ0 x1 x2 x6 σ τ) (fun z0 z1 z2 σ9 τ9 => I_Mo_search_103 σ0 τ0 z0 z1 z2 σ9 τ9 ∧ m_Mo_search_103 σ0 τ0 z0 z1 z2 σ9 τ9 < m_Mo_search_158 σ0 τ0 x1 x2 x6 σ τ) (fun z0 z1 z2 σ9 τ9 => I_Mo_search_158 σ0 τ0 z0 z1 z2 σ9 τ9 ∧ m_Mo_search_158 σ0 τ0 z0 z1 z2 σ9 τ9 < m_Mo_search_158 σ0 τ0 x1 x2 x6 σ τ) (Q_Mo_search σ0 τ0) := by
  obtain ⟨hd, rfl, hF, hC, hA, i, w, hi, rfl, hw, rfl, rfl, hb, h43⟩ := h
  have hnp := hd.nPl
  have hn := hd.nJl
  have evm := SF_vm hF
  have e10 : σ 29 10 = nI (nJ (vm σ0)) := by rw [hF.2.1 10 (by decide) (by decide)]; exact vm_8 hd
  have hci : (nI i).toNatClampNeg = i := nI_clamp (by omega)
  unfold s_Mo_search_158
  rw [e10, nI_leI (by omega) (by omega), hci]
  refine ⟨fun c => ⟨⟨by rw [evm]; exact hd, hA⟩, fun r s t hq => ?_⟩, fun c => ⟨vp_in_nI (by omega) (by decide), vp_in_nI (by omega) (by decide), fun s180 h180 y hy => ⟨⟨hd, rfl, SF_up hF (fun c h1 _ _ _ => by rw [h180, st2_ne h1]), fun q T hT z => by rw [h180, st2_ne (by decide)]; exact hC q T hT z, ?_, i + 1, w, by omega, by rw [hy, nI_1], ?_, ?_, rfl, ?_, fun j hj => ?_⟩, ?_⟩⟩⟩
  · have e : i = nJ (vm σ0) := by omega
    subst e
    have hle : leq (nJ (vm σ0)) (av σ 43) (av σ 46) := fun j hj => by unfold av; rw [h43 j hj]
    have hle' : leq (nJ (vm σ0)) (av σ 46) (av σ 43) := fun j hj => (hle j hj).symm
    obtain ⟨rfl, hq2⟩ := id hq
    have := srch_on (x1 := nI (cnt (fun j => decide (av σ 46 j < nP (vm σ0))) (nJ (vm σ0)))) (x2 := nI w) hd hF hC hA hq (Or.inr ⟨fun j hj => ?_, w, by rw [tro_congr hle]; exact hw, ?_, rfl, ?_⟩)
    · refine ⟨this.1, Nat.lt_of_lt_of_le this.2 ?_⟩
      unfold m_Mo_search_158
      rw [hci]
      omega
    · have hj2 := hj
      rw [evm] at hj2
      rw [hle j hj2, h43 j hj2]
      exact hA j hj
    · congr 1
      exact cnt_congr (fun j hj => by rw [hle j hj])
    · refine ⟨fun j hj => by rw [hle j hj]; exact hb.1 j hj, Or.inr hle, dp_ok_congr (nb_leq hle') hb.2.2.1, fun v hv hs ho => ?_⟩
      rw [bst_leq hle]
      exact hb.2.2.2 v hv hs ho
  · intro j hj
    rw [h180, vm_congr (σ := σ) (by rw [st2_ne (by decide)]) (by rw [st2_ne (by decide)]) (by rw [st2_ne (by decide)]) (by rw [st2_ne (by decide)]) (fun c hc => st2_ne (by intro h2; subst h2; revert hc; decide))] at *
    unfold av
    rw [st2_ne (by decide)]
    exact hA j hj
  · have : av s180 46 = av σ 46 := by unfold av; rw [h180, st2_ne (by decide)]
    rw [this]; exact hw
  · have : av s180 46 = av σ 46 := by unfold av; rw [h180, st2_ne (by decide)]
    rw [this]
  · have : av s180 46 = av σ 46 := by unfold av; rw [h180, st2_ne (by decide)]
    rw [this]; exact hb
  · rw [h180, st2_at, st2_ne (by decide)]
    by_cases z : j = i
    · rw [if_pos ⟨rfl, z⟩, z]
    · rw [if_neg (fun q => z q.2)]; exact h43 j (by omega)
  · unfold m_Mo_search_158 mdg
    have : av s180 46 = av σ 46 := by unfold av; rw [h180, st2_ne (by decide)]
    rw [this, hy, nI_1, hci, nI_clamp (by omega)]
    omega
theorem c_Mo_search (l : Launch) (D : va_G) (ad : Nat → Nat) (ci cl : ClassId) : ∀ (sz : Nat) (σ0 : MI) (τ0 : ML), P_Mo_search σ0 τ0 → gMv l D (xw ad ci cl) (xt ci cl) (xa ad) y_Mo_search w_Mo_search rm_Mo_search [.ref (ad 29)] sz σ0 τ0 (Q_Mo_search σ0 τ0) :=
  k_Mo_search l D ad ci cl P_Mo_search Q_Mo_search P_Mo_asks Q_Mo_asks P_Mo_isBarred Q_Mo_isBarred P_Mo_cost Q_Mo_cost P_Mo_givesTugs Q_Mo_givesTugs P_Mo_triedMany Q_Mo_triedMany P_Mo_triedCost Q_Mo_triedCost P_Mo_goesOn Q_Mo_goesOn (c_Mo_asks l D ad ci cl) (c_Mo_isBarred l D ad ci cl) (c_Mo_cost l D ad ci cl) (c_Mo_givesTugs l D ad ci cl) (c_Mo_triedMany l D ad ci cl) (c_Mo_triedCost l D ad ci cl) (c_Mo_goesOn l D ad ci cl) I_Mo_search_6 m_Mo_search_6 I_Mo_search_16 m_Mo_search_16 I_Mo_search_75 m_Mo_search_75 I_Mo_search_103 m_Mo_search_103 I_Mo_search_158 m_Mo_search_158 v_Mo_search_0 v_Mo_search_6 v_Mo_search_16 v_Mo_search_75 v_Mo_search_103 v_Mo_search_158
