def tgx (σ : MI) : Nat → Nat := fun j => (σ 25 j).toNatClampNeg
def P_Tugs_freeFor (σ : MI) (τ : ML) (a1 : Int32) : Prop := Vd (vx σ) ∧ vp_in a1 7 ∧ ∀ j, j < nJ (vx σ) → vp_in (σ 25 j) 64
def frs (n b : Nat) : Nat := (2 ^ n - 1) ^^^ ((2 ^ n - 1) &&& b)
def Q_Tugs_freeFor (σ : MI) (τ : ML) (a1 r : Int32) (σ' : MI) (τ' : ML) : Prop := σ = σ' ∧ τ = τ' ∧ r = nI (frs (nT (vx σ)) (bsy (vx σ) (tgx σ) a1.toNatClampNeg (nJ (vx σ))))
def I_Tugs_freeFor_13 (σ0 : MI) (τ0 : ML) (a1 x1 x4 x5 : Int32) (σ : MI) (τ : ML) : Prop :=
  σ0 = σ ∧ τ0 = τ ∧ a1 = x1 ∧ P_Tugs_freeFor σ0 τ0 a1 ∧ ∃ i, i ≤ nJ (vx σ0) ∧ x5 = nI i ∧ x4 = nI (frs (nT (vx σ0)) (bsy (vx σ0) (tgx σ0) a1.toNatClampNeg i))
def m_Tugs_freeFor_13 (σ0 : MI) (τ0 : ML) (a1 x1 x4 x5 : Int32) (σ : MI) (τ : ML) : Nat := 100 - x5.toNatClampNeg
theorem m1_bit : ∀ i, i < 32 → ((-1 : Int32).toBitVec).getLsbD i = true := by decide +kernel
theorem frs_step (n b t : Nat) : nI (frs n b) &&& (nI t ^^^ (-1)) = nI (frs n (b ||| t)) := by
  apply Int32.toBitVec_inj.1
  apply BitVec.eq_of_getLsbD_eq
  intro i hi
  rw [Int32.toBitVec_and, BitVec.getLsbD_and, Int32.toBitVec_xor, BitVec.getLsbD_xor, m1_bit i hi]
  show ((BitVec.ofNat 32 (frs n b)).getLsbD i && ((BitVec.ofNat 32 t).getLsbD i ^^ true)) = (BitVec.ofNat 32 (frs n (b ||| t))).getLsbD i
  rw [BitVec.getLsbD_ofNat, BitVec.getLsbD_ofNat, BitVec.getLsbD_ofNat]
  unfold frs
  rw [fr_bit, fr_bit, Nat.testBit_or]
  cases decide (i < 32) <;> cases decide (i < n) <;> cases b.testBit i <;> cases t.testBit i <;> rfl
theorem v_Tugs_freeFor_0 (σ0 : MI) (τ0 : ML) (a1 : Int32) (h : P_Tugs_freeFor σ0 τ0 a1) : s_Tugs_freeFor_0 P_Jobs_overlap Q_Jobs_overlap σ0 τ0 a1 (fun z0 z1 z2 σ9 τ9 => I_Tugs_freeFor_13 σ0 τ0 a1 z0 z1 z2 σ9 τ9) (Q_Tugs_freeFor σ0 τ0 a1) := by
  unfold s_Tugs_freeFor_0
  intro y hy
  have hnt := h.1.nTl
  refine ⟨rfl, rfl, rfl, h, 0, Nat.zero_le _, rfl, ?_⟩
  rw [hy, vx_15 h.1, zb_one (by omega)]
  have hp : 1 ≤ 2 ^ nT (vx σ0) := Nat.one_le_two_pow
  have e : nI (2 ^ nT (vx σ0)) - 1 = nI (2 ^ nT (vx σ0) - 1) := pk_sub (a := 2 ^ nT (vx σ0)) (b := 1) hp
  rw [e]
  show _ = nI (frs _ 0)
  unfold frs
  rw [Nat.and_zero, Nat.xor_zero]
theorem v_Tugs_freeFor_13 (σ0 : MI) (τ0 : ML) (a1 : Int32) (x1 : Int32) (x4 : Int32) (x5 : Int32) (σ : MI) (τ : ML) (h : I_Tugs_freeFor_13 σ0 τ0 a1 x1 x4 x5 σ τ) : s_Tugs_freeFor_13 P_Jobs_overlap Q_Jobs_overlap σ τ x1 x4 x5 (fun z0 z1 z2 σ9 τ9 => I_Tugs_freeFor_13 σ0 τ0 a1 z0 z1 z2 σ9 τ9 ∧ m_Tugs_freeFor_13 σ0 τ0 a1 z0 z1 z2 σ9 τ9 < m_Tugs_freeFor_13 σ0 τ0 a1 x1 x4 x5 σ τ) (Q_Tugs_freeFor σ0 τ0 a1) := by
  obtain ⟨rfl, rfl, rfl, hP, i, hi, rfl, rfl⟩ := h
  obtain ⟨hd, h1, ht⟩ := id hP
  obtain ⟨j, hj, rfl⟩ := vp_in_of h1 (by decide)
  have hn := hd.nJl
  have e8 := vx_8 hd
  have hcj : (nI j).toNatClampNeg = j := nI_clamp (by omega)
  have hci : (nI i).toNatClampNeg = i := nI_clamp (by omega)
  have hm : ∀ (u y : Int32), i < nJ (vx σ0) → y = nI i + 1 → m_Tugs_freeFor_13 σ0 τ0 (nI j) (nI j) u y σ0 τ0 < m_Tugs_freeFor_13 σ0 τ0 (nI j) (nI j) (nI (frs (nT (vx σ0)) (bsy (vx σ0) (tgx σ0) (nI j).toNatClampNeg i))) (nI i) σ0 τ0 := by
    intro u y hl hy
    unfold m_Tugs_freeFor_13
    rw [hy, nI_1, nI_clamp (by omega), hci]
    omega
  unfold s_Tugs_freeFor_13
  rw [e8, nI_leI (by omega) (by omega)]
  refine ⟨fun c => ⟨rfl, rfl, ?_⟩, fun c => ⟨⟨vp_in_nI (by omega) (by decide), h1⟩, fun r s t hq => ?_⟩⟩
  · have e : i = nJ (vx σ0) := by omega
    rw [e]
  · obtain ⟨rfl, rfl, hr⟩ := hq
    rw [hci, hcj] at hr
    unfold ovp at hr
    have estep : bsy (vx σ0) (tgx σ0) j (i + 1) = if vx σ0 11 i < vx σ0 12 j ∧ vx σ0 11 j < vx σ0 12 i then bsy (vx σ0) (tgx σ0) j i ||| tgx σ0 i else bsy (vx σ0) (tgx σ0) j i := rfl
    refine ⟨fun c2 y hy => ⟨⟨rfl, rfl, rfl, hP, i + 1, by omega, by rw [hy, nI_1], ?_⟩, hm _ _ (by omega) hy⟩, fun c2 => ⟨vp_in_nI (by omega) (by decide), fun y44 h44 y46 h46 => ⟨⟨rfl, rfl, rfl, hP, i + 1, by omega, by rw [h46, nI_1], ?_⟩, hm _ _ (by omega) h46⟩⟩⟩
    · rw [hcj, estep, if_neg (rb_0 hr c2)]
    · rw [h44, hcj, hci, estep, if_pos (rb_1 hr c2)]
      have hti : σ0 25 i = nI (tgx σ0 i) := by
        obtain ⟨x, hx, e⟩ := vp_in_of (ht i (by omega)) (by decide)
        unfold tgx
        rw [e, nI_clamp (by omega)]
      rw [hti, frs_step]
theorem c_Tugs_freeFor (l : Launch) (D : va_G) (ad : Nat → Nat) (ci cl : ClassId) : ∀ (sz : Nat) (σ0 : MI) (τ0 : ML) (a1 : Int32), P_Tugs_freeFor σ0 τ0 a1 → gMi l D (xw ad ci cl) (xt ci cl) (xa ad) y_Tugs_freeFor w_Tugs_freeFor rm_Tugs_freeFor [.ref (ad 15), .int a1, .ref (ad 8), .ref (ad 22)] sz σ0 τ0 (Q_Tugs_freeFor σ0 τ0 a1) :=
  k_Tugs_freeFor l D ad ci cl P_Tugs_freeFor Q_Tugs_freeFor P_Jobs_overlap Q_Jobs_overlap (c_Jobs_overlap l D ad ci cl) I_Tugs_freeFor_13 m_Tugs_freeFor_13 v_Tugs_freeFor_0 v_Tugs_freeFor_13
def P_Tugs_serve (σ : MI) (τ : ML) : Prop := Vd (vx σ) ∧ Orx σ ∧ ADX σ
def Q_Tugs_serve (σ : MI) (τ : ML) (σ' : MI) (τ' : ML) : Prop :=
  τ = τ' ∧ (∀ c, c ≠ 25 → c ≠ 26 → σ' c = σ c) ∧ ∃ t, tgs (vx σ) (od (vx σ) (nJ (vx σ))) (adx σ) (nJ (vx σ)) t ∧ (∀ j, j < nJ (vx σ) → σ' 25 j = nI (t j)) ∧ ∀ j, j < nJ (vx σ) → σ' 26 j = if adx σ j ≠ 4 ∧ 0 < vx σ 10 j ∧ t j = 0 then 1 else 0
def I_Tugs_serve_2 (σ0 : MI) (τ0 : ML) (x3 : Int32) (σ : MI) (τ : ML) : Prop :=
  P_Tugs_serve σ0 τ0 ∧ τ0 = τ ∧ (∀ c, c ≠ 25 → c ≠ 26 → σ c = σ0 c) ∧ ∃ i, i ≤ nJ (vx σ0) ∧ x3 = nI i ∧ ∀ j, j < i → σ 25 j = 0 ∧ σ 26 j = 0
def I_Tugs_serve_32 (σ0 : MI) (τ0 : ML) (x3 : Int32) (σ : MI) (τ : ML) : Prop :=
  P_Tugs_serve σ0 τ0 ∧ τ0 = τ ∧ (∀ c, c ≠ 25 → c ≠ 26 → σ c = σ0 c) ∧ ∃ k t, k ≤ nJ (vx σ0) ∧ x3 = nI k ∧ tgs (vx σ0) (od (vx σ0) (nJ (vx σ0))) (adx σ0) k t ∧ (∀ j, j < nJ (vx σ0) → σ 25 j = nI (t j)) ∧
  ∀ l, l < nJ (vx σ0) → σ 26 (od (vx σ0) (nJ (vx σ0)) l) = if l < k ∧ adx σ0 (od (vx σ0) (nJ (vx σ0)) l) ≠ 4 ∧ 0 < vx σ0 10 (od (vx σ0) (nJ (vx σ0)) l) ∧ t (od (vx σ0) (nJ (vx σ0)) l) = 0 then 1 else 0
def m_Tugs_serve_2 (σ0 : MI) (τ0 : ML) (x3 : Int32) (σ : MI) (τ : ML) : Nat := 1000 - x3.toNatClampNeg
def m_Tugs_serve_32 (σ0 : MI) (τ0 : ML) (x3 : Int32) (σ : MI) (τ : ML) : Nat := 100 - x3.toNatClampNeg
theorem vx_25 {σ σ0 : MI} (h : ∀ c, c ≠ 25 → c ≠ 26 → σ c = σ0 c) : vx σ = vx σ0 :=
  vx_congr (by rw [h 1 (by decide) (by decide)]) (by rw [h 8 (by decide) (by decide)]) (by rw [h 15 (by decide) (by decide)]) (by rw [h 17 (by decide) (by decide)]) (fun c hc => h c (by rintro rfl; exact absurd hc (by decide)) (by rintro rfl; exact absurd hc (by decide)))
theorem v_Tugs_serve_0 (σ0 : MI) (τ0 : ML) (h : P_Tugs_serve σ0 τ0) : s_Tugs_serve_0 P_Tugs_freeFor Q_Tugs_freeFor P_Tugs_choose Q_Tugs_choose σ0 τ0 (fun z0 σ9 τ9 => I_Tugs_serve_2 σ0 τ0 z0 σ9 τ9) (fun z0 σ9 τ9 => I_Tugs_serve_32 σ0 τ0 z0 σ9 τ9) (Q_Tugs_serve σ0 τ0) := by
  unfold s_Tugs_serve_0
  exact ⟨h, rfl, fun _ _ _ => rfl, 0, Nat.zero_le _, rfl, fun j hj => absurd hj (Nat.not_lt_zero j)⟩
theorem v_Tugs_serve_2 (σ0 : MI) (τ0 : ML) (x3 : Int32) (σ : MI) (τ : ML) (h : I_Tugs_serve_2 σ0 τ0 x3 σ τ) : s_Tugs_serve_2 P_Tugs_freeFor Q_Tugs_freeFor P_Tugs_choose Q_Tugs_choose σ τ x3 (fun z0 σ9 τ9 => I_Tugs_serve_2 σ0 τ0 z0 σ9 τ9 ∧ m_Tugs_serve_2 σ0 τ0 z0 σ9 τ9 < m_Tugs_serve_2 σ0 τ0 x3 σ τ) (fun z0 σ9 τ9 => I_Tugs_serve_32 σ0 τ0 z0 σ9 τ9 ∧ m_Tugs_serve_32 σ0 τ0 z0 σ9 τ9 < m_Tugs_serve_2 σ0 τ0 x3 σ τ) (Q_Tugs_serve σ0 τ0) := by
  obtain ⟨hP, rfl, hfr, i, hi, rfl, hall⟩ := h
  obtain ⟨hd, ho, had⟩ := id hP
  have hn := hd.nJl
  have e8 := vx_8 hd
  have hci : (nI i).toNatClampNeg = i := nI_clamp (by omega)
  unfold s_Tugs_serve_2
  rw [hfr 8 (by decide) (by decide), e8, nI_leI (by omega) (by omega), hci]
  refine ⟨fun c => ⟨⟨hP, rfl, hfr, 0, fun _ => 0, Nat.zero_le _, rfl, fun _ _ => rfl, fun j hj => (hall j (by omega)).1, fun l hl => ?_⟩, ?_⟩, fun c => ⟨vp_in_nI (by omega) (by decide), fun s16 h16 => ⟨vp_in_nI (by omega) (by decide), fun s23 h23 y hy => ⟨⟨hP, rfl, fun c h1 h2 => by rw [h23, st2_ne h2, h16, st2_ne h1]; exact hfr c h1 h2, i + 1, by omega, by rw [hy, nI_1], fun j hj => ?_⟩, ?_⟩⟩⟩⟩
  · rw [if_neg (by omega)]
    exact (hall _ (by have := od_lt7 hd hl; omega)).2
  · unfold m_Tugs_serve_2 m_Tugs_serve_32
    rw [hci]
    have : (0 : Int32).toNatClampNeg = 0 := rfl
    rw [this]
    omega
  · rw [h23, st2_at, st2_at, if_neg (by omega), h16, st2_at, st2_at]
    by_cases z : j = i
    · subst z
      rw [if_pos ⟨rfl, rfl⟩, if_pos ⟨rfl, rfl⟩]
      exact ⟨rfl, rfl⟩
    · rw [if_neg (fun q => z q.2), if_neg (fun q => z q.2), if_neg (by omega)]
      exact hall j (by omega)
  · unfold m_Tugs_serve_2
    rw [hy, nI_1, nI_clamp (by omega), hci]
    omega
theorem v_Tugs_serve_32 (σ0 : MI) (τ0 : ML) (x3 : Int32) (σ : MI) (τ : ML) (h : I_Tugs_serve_32 σ0 τ0 x3 σ τ) : s_Tugs_serve_32 P_Tugs_freeFor Q_Tugs_freeFor P_Tugs_choose Q_Tugs_choose σ τ x3 (fun z0 σ9 τ9 => I_Tugs_serve_2 σ0 τ0 z0 σ9 τ9 ∧ m_Tugs_serve_2 σ0 τ0 z0 σ9 τ9 < m_Tugs_serve_32 σ0 τ0 x3 σ τ) (fun z0 σ9 τ9 => I_Tugs_serve_32 σ0 τ0 z0 σ9 τ9 ∧ m_Tugs_serve_32 σ0 τ0 z0 σ9 τ9 < m_Tugs_serve_32 σ0 τ0 x3 σ τ) (Q_Tugs_serve σ0 τ0) := by
  obtain ⟨hP, rfl, hfr, k, t, hk, rfl, htg, h25, h26⟩ := h
  obtain ⟨hd, ho, had⟩ := id hP
  have hn := hd.nJl
  have hnt := hd.nTl
  have e8 := vx_8 hd
  have evx := vx_25 hfr
  have hck : (nI k).toNatClampNeg = k := nI_clamp (by omega)
  have hp64 : 2 ^ nT (vx σ0) ≤ 2 ^ 6 := Nat.pow_le_pow_right (by decide) hnt.1
  have htl := tgs_lt _ _ htg
  have hm : ∀ (y : Int32) (s9 : MI), k < nJ (vx σ0) → y = nI k + 1 → m_Tugs_serve_32 σ0 τ0 y s9 τ0 < m_Tugs_serve_32 σ0 τ0 (nI k) σ τ0 := by
    intro y s9 hl hy
    unfold m_Tugs_serve_32
    rw [hy, nI_1, nI_clamp (by omega), hck]
    omega
  unfold s_Tugs_serve_32
  rw [hfr 8 (by decide) (by decide), e8, nI_leI (by omega) (by omega), hck]
  refine ⟨fun c => ?_, fun c => ⟨vp_in_nI (by omega) (by decide), fun y hy => ?_⟩⟩
  · have e : k = nJ (vx σ0) := by omega
    subst e
    refine ⟨rfl, hfr, t, htg, h25, fun j hj => ?_⟩
    obtain ⟨l, hl, rfl⟩ := (od_ok (vx σ0) (nJ (vx σ0))).2.2 j hj
    rw [h26 l hl]
    simp only [hl, true_and]
  · have hkn : k < nJ (vx σ0) := by omega
    have hj := od_lt7 hd hkn
    rw [hfr 14 (by decide) (by decide), ho k hkn] at hy
    have hinj : ∀ l, l < nJ (vx σ0) → l ≠ k → od (vx σ0) (nJ (vx σ0)) l ≠ od (vx σ0) (nJ (vx σ0)) k := fun l hl hne e => hne (ord_inj (od_ok _ _) hl hkn e)
    obtain ⟨j, ej⟩ : ∃ j, j = od (vx σ0) (nJ (vx σ0)) k := ⟨_, rfl⟩
    rw [← ej] at hy hj
    subst hy
    have hcj : (nI j).toNatClampNeg = j := nI_clamp (by omega)
    have hj7 : vp_in (nI j) 7 := vp_in_nI (by omega) (by decide)
    have hA := had j hj
    have hjob := (hd.job (j := j) (by omega))
    have hskip : ∀ (s9 : MI) (y : Int32), ¬ (adx σ0 j ≠ 4 ∧ 0 < vx σ0 10 j) → s9 = σ → y = nI k + 1 → I_Tugs_serve_32 σ0 τ0 y s9 τ0 := by
      intro s9 y hno hs hy
      subst hs
      refine ⟨hP, rfl, hfr, k + 1, t, by omega, by rw [hy, nI_1], ⟨t, htg, Or.inr ⟨by rw [← ej]; exact hno, fun _ _ => rfl⟩⟩, h25, fun l hl => ?_⟩
      rw [h26 l hl]
      by_cases z : l = k
      · subst z
        rw [← ej, if_neg (by omega), if_neg (fun q => hno ⟨q.2.1, q.2.2.1⟩)]
      · have : (l < k + 1) ↔ (l < k) := by omega
        simp only [this]
    rw [hcj, hfr 23 (by decide) (by decide), hA.1, dv_m1 hA.2, hfr 10 (by decide) (by decide)]
    refine ⟨hj7, fun c2 y hy => ⟨hskip σ y (fun z => z.1 c2) rfl hy, hm _ _ hkn hy⟩, fun c2 => ⟨hj7, fun c3 y hy => ⟨hskip σ y (fun z => ?_) rfl hy, hm _ _ hkn hy⟩, fun c3 => ⟨⟨by rw [evx]; exact hd, hj7, fun i hi => ?_⟩, fun r75 s75 t75 hq => ?_⟩⟩⟩
    · rw [z_le, zc_0] at c3
      have : vx σ0 10 j = (σ0 10 j).toInt := rfl
      omega
    · rw [evx] at hi
      rw [h25 i hi]
      exact vp_in_nI (by have := htl i hi; omega) (by decide)
    · obtain ⟨rfl, rfl, rfl⟩ := hq
      rw [evx, hcj]
      have htgx : ∀ i, i < nJ (vx σ0) → tgx σ i = t i := fun i hi => by unfold tgx; rw [h25 i hi, nI_clamp (by have := htl i hi; omega)]
      rw [bsy_congr htgx]
      have hb : bsy (vx σ0) t j (nJ (vx σ0)) < 2 ^ 6 := Nat.lt_of_lt_of_le (bsy_lt htl) hp64
      refine ⟨hj7, ⟨by rw [evx]; exact hd, ?_, bsy (vx σ0) t j (nJ (vx σ0)), hb, by rw [evx]; rfl⟩, fun r85 s85 t85 hq => ?_⟩
      · rw [hfr 10 (by decide) (by decide)]; exact hjob.2.1.1
      · obtain ⟨rfl, rfl, hch⟩ := hq
        rw [evx] at hch
        obtain ⟨f, rfl, hbs⟩ := hch _ hb rfl
        rw [hfr 10 (by decide) (by decide)] at hbs
        have hpos : 0 < vx σ0 10 j := by
          rw [z_le, zc_0] at c3
          have : vx σ0 10 j = (σ0 10 j).toInt := rfl
          omega
        have hf64 : f < 64 := by
          rcases bsf_lt _ _ hbs with z | z
          · omega
          · omega
        have hend : ∀ (s98 s115 : MI) (v y : Int32), s98 = st2 σ 25 j (nI f) → s115 = st2 s98 26 j v → v = (if f = 0 then 1 else 0) → y = nI k + 1 → I_Tugs_serve_32 σ0 τ0 y s115 τ0 := by
          intro s98 s115 v y h98 h115 hv hy
          have hne26 : ∀ i, s115 25 i = if i = j then nI f else σ 25 i := by
            intro i
            rw [h115, st2_at, if_neg (by omega), h98, st2_at]
            simp
          obtain ⟨t', htj, htn⟩ : ∃ t' : Nat → Nat, t' j = f ∧ ∀ i, i ≠ j → t' i = t i := ⟨fun i => if i = j then f else t i, by simp, fun i hi => by simp [hi]⟩
          refine ⟨hP, rfl, fun c h1 h2 => by rw [h115, st2_ne h2, h98, st2_ne h1]; exact hfr c h1 h2, k + 1, t', by omega, by rw [hy, nI_1], ⟨t, htg, Or.inl ⟨by rw [← ej]; exact c2, by rw [← ej]; exact hpos, fun i _ hi => htn i (by rw [ej]; exact hi), ?_⟩⟩, fun i hi => ?_, fun l hl => ?_⟩
          · rw [← ej, htj]
            exact hbs
          · rw [hne26]
            by_cases z : i = j
            · rw [if_pos z, z, htj]
            · rw [if_neg z, htn i z]; exact h25 i hi
          · rw [h115, st2_at, h98, st2_ne (by decide)]
            by_cases z : l = k
            · subst z
              rw [← ej, if_pos ⟨rfl, rfl⟩, hv, htj]
              by_cases z2 : f = 0
              · rw [if_pos z2, if_pos ⟨by omega, c2, hpos, z2⟩]
              · rw [if_neg z2, if_neg (fun q => z2 q.2.2.2)]
            · have hij := hinj l hl z
              rw [← ej] at hij
              rw [if_neg (fun q => hij q.2), h26 l hl, htn _ hij]
              have : (l < k + 1) ↔ (l < k) := by omega
              simp only [this]
        refine ⟨hj7, fun s98 h98 => ⟨fun c4 => ⟨hj7, fun s115 h115 y hy => ⟨hend s98 s115 0 y h98 h115 ?_ hy, hm _ _ hkn hy⟩⟩, fun c4 => ⟨hj7, fun s115 h115 y hy => ⟨hend s98 s115 1 y h98 h115 ?_ hy, hm _ _ hkn hy⟩⟩⟩⟩
        · rw [if_neg (fun z => c4 (by rw [z]; rfl))]
        · rw [z_eq, z_nI (by omega), zc_0] at c4
          rw [if_pos (by omega)]
theorem c_Tugs_serve (l : Launch) (D : va_G) (ad : Nat → Nat) (ci cl : ClassId) : ∀ (sz : Nat) (σ0 : MI) (τ0 : ML), P_Tugs_serve σ0 τ0 → gMv l D (xw ad ci cl) (xt ci cl) (xa ad) y_Tugs_serve w_Tugs_serve rm_Tugs_serve [.ref (ad 15), .ref (ad 8), .ref (ad 22)] sz σ0 τ0 (Q_Tugs_serve σ0 τ0) :=
  k_Tugs_serve l D ad ci cl P_Tugs_serve Q_Tugs_serve P_Tugs_freeFor Q_Tugs_freeFor P_Tugs_choose Q_Tugs_choose (c_Tugs_freeFor l D ad ci cl) (c_Tugs_choose l D ad ci cl) I_Tugs_serve_2 m_Tugs_serve_2 I_Tugs_serve_32 m_Tugs_serve_32 v_Tugs_serve_0 v_Tugs_serve_2 v_Tugs_serve_32
