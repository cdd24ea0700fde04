noncomputable def trb (d : Dt) (B : Nat) : Nat → Nat → Option Nat := fun q T => if B.testBit q then (if T = 0 then some 0 else none) else trv d (od d (nJ d)) q T (nJ d)
def OPT (d : Dt) (B : Nat) (a : Nat → Nat) : Prop :=
  dp_ok (trb d B) a (2 ^ nJ d - 1) (nJ d) (nP d) ∧ ∀ a', dp_ok (trb d B) a' (2 ^ nJ d - 1) (nJ d) (nP d) → dp_cost (trb d B) a (2 ^ nJ d - 1) (nJ d) (nP d) ≤ dp_cost (trb d B) a' (2 ^ nJ d - 1) (nJ d) (nP d)
def dv (x : Nat) : Int32 := if x = 4 then -1 else nI x
def P_Planner_divide (σ : MI) (τ : ML) : Prop := Vd (vx σ) ∧ Orx σ ∧ vp_in (σ 22 1) 16
def Q_Planner_divide (σ : MI) (τ : ML) (σ' : MI) (τ' : ML) : Prop :=
  (∀ c, c ≠ 23 → σ' c = σ c) ∧ (∀ c, c ≠ 20 → c ≠ 21 → τ' c = τ c) ∧ ∃ a, OPT (vx σ) (σ 22 1).toNatClampNeg a ∧ ∀ j, j < nJ (vx σ) → σ' 23 j = dv (a j)
def I_Planner_divide_19 (σ0 : MI) (τ0 : ML) (x5 x6 : Int32) (σ : MI) (τ : ML) : Prop :=
  σ0 = σ ∧ P_Planner_divide σ0 τ0 ∧ x5 = nI (2 ^ nJ (vx σ0)) ∧ (∀ c, c ≠ 20 → c ≠ 21 → τ c = τ0 c) ∧ ∃ p, p ≤ nP (vx σ0) ∧ x6 = nI p ∧ ∀ S, S < 2 ^ nJ (vx σ0) → 0 ≤ (τ 20 S).toInt ∧ dp_least (trb (vx σ0) (σ0 22 1).toNatClampNeg) S (nJ (vx σ0)) p (lz τ 20 S)
def I_Planner_divide_73 (σ0 : MI) (τ0 : ML) (x6 : Int64) (x8 : Int32) (σ : MI) (τ : ML) : Prop :=
  P_Planner_divide σ0 τ0 ∧ (∀ c, c ≠ 23 → σ c = σ0 c) ∧ (∀ c, c ≠ 20 → c ≠ 21 → τ c = τ0 c) ∧ ∃ a i, i ≤ nJ (vx σ0) ∧ x8 = nI i ∧ OPT (vx σ0) (σ0 22 1).toNatClampNeg a ∧ x6 = lN (dp_cost (trb (vx σ0) (σ0 22 1).toNatClampNeg) a (2 ^ nJ (vx σ0) - 1) (nJ (vx σ0)) (nP (vx σ0))) ∧ dp_cost (trb (vx σ0) (σ0 22 1).toNatClampNeg) a (2 ^ nJ (vx σ0) - 1) (nJ (vx σ0)) (nP (vx σ0)) < 17592186044416 ∧ ∀ j, j < i → σ 23 j = dv (a j)
def m_Planner_divide_19 (σ0 : MI) (τ0 : ML) (x5 x6 : Int32) (σ : MI) (τ : ML) : Nat := 1000 - x6.toNatClampNeg
def m_Planner_divide_73 (σ0 : MI) (τ0 : ML) (x6 : Int64) (x8 : Int32) (σ : MI) (τ : ML) : Nat := 100 - x8.toNatClampNeg
theorem vx_23 {σ σ0 : MI} (h : ∀ c, c ≠ 23 → σ c = σ0 c) : vx σ = vx σ0 :=
  vx_congr (by rw [h 1 (by decide)]) (by rw [h 8 (by decide)]) (by rw [h 15 (by decide)]) (by rw [h 17 (by decide)]) (fun c hc => h c (by rintro rfl; exact absurd hc (by decide)))
theorem trv_0 {d : Dt} {o : Nat → Nat} {p n : Nat} : trv d o p 0 n = some 0 := by
  unfold trv
  rw [if_neg (by intro z; exact absurd z.2 (by decide)), tvf_skip (k := 0) (Nat.zero_le n) (fun i _ _ => Nat.zero_testBit _)]
  rfl
theorem trb_0 {d : Dt} {B q : Nat} : trb d B q 0 = some 0 := by
  unfold trb
  split
  · rfl
  · exact trv_0
theorem least_le {tr : Nat → Nat → Option Nat} (h0 : ∀ q, tr q 0 = some 0) {S n p v : Nat} (hp : p ≤ 4) (h : dp_least tr S n p v) : v ≤ nbd S n := by
  have hz : ∀ q, q < p → dp_of (fun _ => 4) q S n = 0 := fun q hq => dp_of_zero (fun j _ _ => by omega)
  have hok : dp_ok tr (fun _ => 4) S n p := ⟨fun _ _ _ => Or.inr rfl, fun q hq => ⟨0, by rw [hz q hq]; exact h0 q⟩⟩
  have ht : ∀ q, q ≤ p → dp_tv tr (fun _ => 4) S n q = 0 := by
    intro q
    induction q with
    | zero => intro _; rfl
    | succ q ih =>
      intro hq
      show dp_tv tr (fun _ => 4) S n q + (tr q (dp_of (fun _ => 4) q S n)).getD 0 = 0
      rw [ih (by omega), hz q (by omega), h0 q]
      rfl
  have := h.2 _ hok
  unfold dp_cost at this
  rw [ht p (Nat.le_refl p)] at this
  have e1 : dp_none (fun _ => 4) S n = dp_sb (fun _ => 1) S n := dp_sb_congr n (fun j _ _ => rfl)
  have e2 : dp_dig (fun _ => 4) S n = dgs 4 S n := rfl
  rw [e1, e2, Nat.zero_mul, Nat.add_zero] at this
  exact this
theorem dgs_le {dg S n : Nat} (hd : dg ≤ 4) (hn : n ≤ 7) : dgs dg S n ≤ 7340032 := by
  have h1 := dp_sb_le (g := fun j => dg * 8 ^ (6 - j)) (S := S) 1048576 (fun j => by
    have : 8 ^ (6 - j) ≤ 8 ^ 6 := Nat.pow_le_pow_right (by decide) (by omega)
    have := Nat.mul_le_mul hd this
    omega) n
  unfold dgs
  have : 1048576 * n ≤ 1048576 * 7 := Nat.mul_le_mul_left _ hn
  omega
theorem nbd_le {S n : Nat} (hn : n ≤ 7) : nbd S n < 17592186044416 := by
  have h1 := dp_sb_le (g := fun _ => 1) (S := S) 1 (fun _ => Nat.le_refl 1) n
  have h2 := dgs_le (dg := 4) (S := S) (Nat.le_refl 4) hn
  unfold nbd
  omega
theorem v_Planner_divide_0 (σ0 : MI) (τ0 : ML) (h : P_Planner_divide σ0 τ0) : s_Planner_divide_0 P_Planner_giveToNobody Q_Planner_giveToNobody P_Plan_isBarred Q_Plan_isBarred P_Planner_costOwn Q_Planner_costOwn P_Planner_joinOwn Q_Planner_joinOwn P_Planner_digitShift Q_Planner_digitShift σ0 τ0 (fun z0 z1 σ9 τ9 => I_Planner_divide_19 σ0 τ0 z0 z1 σ9 τ9) (fun z0 z1 σ9 τ9 => I_Planner_divide_73 σ0 τ0 z0 z1 σ9 τ9) (Q_Planner_divide σ0 τ0) := by
  unfold s_Planner_divide_0
  obtain ⟨hd, ho, hB⟩ := id h
  have hn := hd.nJl
  have e8 := vx_8 hd
  have hcn : (nI (nJ (vx σ0))).toNatClampNeg = nJ (vx σ0) := nI_clamp (by omega)
  intro y hy
  refine ⟨by rw [e8]; exact vp_in_nI (by omega) (by decide), fun s t hq => ?_⟩
  obtain ⟨rfl, hfr, hall⟩ := hq
  rw [e8, hcn] at hall
  refine ⟨rfl, h, by rw [hy, e8, zb_one (by omega)], fun c h1 _ => hfr c h1, 0, Nat.zero_le _, rfl, fun S hS => ?_⟩
  have hb := nbd_le (S := S) hn.1
  have e := hall S hS
  unfold lz
  rw [e, pf_lI (by omega)]
  exact ⟨Int.natCast_nonneg _, dp_base _ S _⟩
theorem v_Planner_divide_19 (σ0 : MI) (τ0 : ML) (x5 : Int32) (x6 : Int32) (σ : MI) (τ : ML) (h : I_Planner_divide_19 σ0 τ0 x5 x6 σ τ) : s_Planner_divide_19 P_Planner_giveToNobody Q_Planner_giveToNobody P_Plan_isBarred Q_Plan_isBarred P_Planner_costOwn Q_Planner_costOwn P_Planner_joinOwn Q_Planner_joinOwn P_Planner_digitShift Q_Planner_digitShift σ τ x5 x6 (fun z0 z1 σ9 τ9 => I_Planner_divide_19 σ0 τ0 z0 z1 σ9 τ9 ∧ m_Planner_divide_19 σ0 τ0 z0 z1 σ9 τ9 < m_Planner_divide_19 σ0 τ0 x5 x6 σ τ) (fun z0 z1 σ9 τ9 => I_Planner_divide_73 σ0 τ0 z0 z1 σ9 τ9 ∧ m_Planner_divide_73 σ0 τ0 z0 z1 σ9 τ9 < m_Planner_divide_19 σ0 τ0 x5 x6 σ τ) (Q_Planner_divide σ0 τ0) := by
  obtain ⟨rfl, hP, rfl, hfr, p, hp, rfl, hall⟩ := h
  obtain ⟨hd, ho, hB⟩ := id hP
  have hn := hd.nJl
  have hnp := hd.nPl
  have hpw := jo_pow hn.1
  have e1 := vx_1 hd
  obtain ⟨B, hB16, eB⟩ := vp_in_of hB (by decide)
  have hcB : (σ0 22 1).toNatClampNeg = B := by rw [eB]; exact nI_clamp (by omega)
  have hm : ∀ (t9 : ML) (y : Int32), p < nP (vx σ0) → y = nI p + 1 → m_Planner_divide_19 σ0 τ0 (nI (2 ^ nJ (vx σ0))) y σ0 t9 < m_Planner_divide_19 σ0 τ0 (nI (2 ^ nJ (vx σ0))) (nI p) σ0 τ := by
    intro t9 y hl hy
    unfold m_Planner_divide_19
    rw [hy, nI_1, nI_clamp (by omega), nI_clamp (by omega)]
    omega
  have hup : ∀ S, S < 2 ^ nJ (vx σ0) → (τ 20 S).toInt < 17592186044416 := by
    intro S hS
    have h1 := least_le (fun q => trb_0) (by omega) (hall S hS).2
    have h2 := nbd_le (S := S) hn.1
    have h3 := (hall S hS).1
    unfold lz at h1
    omega
  unfold s_Planner_divide_19
  rw [e1, nI_leI (by omega) (by omega)]
  refine ⟨fun c => ?_, fun c => ⟨trivial, fun r s t hq => ?_⟩⟩
  · have e : p = nP (vx σ0) := by omega
    subst e
    have es : nI (2 ^ nJ (vx σ0)) - 1 = nI (2 ^ nJ (vx σ0) - 1) := pk_sub (a := 2 ^ nJ (vx σ0)) (b := 1) hpw.1
    rw [es, nI_clamp (by omega)]
    refine ⟨vp_in_nI (by omega) (by decide), fun y hy => ?_⟩
    have hl := hall (2 ^ nJ (vx σ0) - 1) (by omega)
    obtain ⟨⟨a, ha1, ha2⟩, hmin⟩ := hl.2
    have hu := hup (2 ^ nJ (vx σ0) - 1) (by omega)
    refine ⟨⟨hP, fun _ _ => rfl, hfr, a, 0, Nat.zero_le _, rfl, ⟨ha1, fun a' h' => by rw [ha2]; exact hmin a' h'⟩, ?_, ?_, fun j hj => absurd hj (Nat.not_lt_zero j)⟩, ?_⟩
    · rw [hy, ha2]
      unfold lz
      rw [zl_eq, pf_lI (by omega)]
      omega
    · rw [ha2]
      unfold lz
      omega
    · unfold m_Planner_divide_73 m_Planner_divide_19
      rw [nI_clamp (n := nP (vx σ0)) (by omega)]
      have : (0 : Int32).toNatClampNeg = 0 := rfl
      rw [this]
      omega
  · obtain ⟨rfl, rfl, hr⟩ := hq
    have hlt : p < nP (vx σ0) := by omega
    rw [eB] at hr
    have hbit : rb (B.testBit p = true) r := rb_imp hr (by
      rw [bit_0 (by omega) (by omega)]
      cases B.testBit p <;> simp)
    rw [← eB] at hr
    refine ⟨fun c2 y hy => ⟨⟨rfl, hP, rfl, hfr, p + 1, by omega, by rw [hy, nI_1], fun S hS => ⟨(hall S hS).1, ?_⟩⟩, hm _ _ hlt hy⟩, fun c2 => ⟨⟨hd, ho, vp_in_nI (by omega) (by decide)⟩, fun s44 t44 hq => ?_⟩⟩
    · have hb := rb_1 hbit c2
      exact dp_skip (by omega) trb_0 (fun T hT => by unfold trb; rw [hcB, if_pos hb, if_neg hT]) hS (lz τ 20) (fun S' hS' => (hall S' hS').2) rfl
    · obtain ⟨rfl, hf2, hown⟩ := hq
      have hcp : (nI p).toNatClampNeg = p := nI_clamp (by omega)
      rw [hcp] at hown
      have hb : B.testBit p = false := by have := rb_0 hbit c2; simpa using this
      have h20 : t44 20 = τ 20 := hf2 20 (by decide)
      have hrg : ∀ T x, owc (vx σ0) p T = some x → x < 17592186044416 := by
        intro T x hx
        unfold owc at hx
        cases ht : trv (vx σ0) (od (vx σ0) (nJ (vx σ0))) p T (nJ (vx σ0)) with
        | none => rw [ht] at hx; simp at hx
        | some t =>
          rw [ht] at hx
          have h1 := trv_rng hd (by omega) hn.1 (fun k hk => Nat.lt_of_lt_of_le (od_lt7 hd hk) hn.1) ht
          have h2 := dgs_le (dg := p) (S := T) (by omega) hn.1
          simp at hx
          omega
      have how : ∀ T, T < 2 ^ nJ (vx σ0) → ow t44 T = owc (vx σ0) p T := by
        intro T hT
        unfold ow
        rw [hown T hT]
        cases hx : owc (vx σ0) p T with
        | none => simp [ovl]
        | some x =>
          have := hrg T x hx
          have hne : ¬ ovl (some x) = -1 := by
            show ¬ lN x = -1
            rw [zl_eq, pf_lI (by omega)]
            show ¬ (x : Int) = -1
            omega
          rw [if_neg hne]
          unfold lz
          rw [hown T hT, hx]
          show some (lN x).toInt.toNat = some x
          rw [lz_lN (by omega)]
      have hok : jo_ok t44 (nJ (vx σ0)) := by
        intro S hS
        rw [h20]
        refine ⟨⟨(hall S hS).1, hup S hS⟩, ?_⟩
        rw [hown S hS]
        cases hx : owc (vx σ0) p S with
        | none => exact Or.inl rfl
        | some x =>
          have := hrg S x hx
          refine Or.inr ?_
          show 0 ≤ (lN x).toInt ∧ (lN x).toInt < _
          rw [pf_lI (by omega)]
          omega
      refine ⟨⟨nJ (vx σ0), hn.1, rfl, hok⟩, fun s50 t50 hq => ?_⟩
      obtain ⟨rfl, hf3, hjo⟩ := hq
      intro y hy
      refine ⟨⟨rfl, hP, rfl, fun c h1 h2 => by rw [hf3 c h1, hf2 c h2]; exact hfr c h1 h2, p + 1, by omega, by rw [hy, nI_1], fun S hS => ?_⟩, hm _ _ hlt hy⟩
      obtain ⟨hpos, hmin⟩ := hjo _ hn.1 rfl S hS
      refine ⟨hpos, ?_⟩
      have hlz : lz t44 20 = lz τ 20 := by funext i; unfold lz; rw [h20]
      rw [hlz] at hmin
      have htrb : ∀ T, trb (vx σ0) (σ0 22 1).toNatClampNeg p T = trv (vx σ0) (od (vx σ0) (nJ (vx σ0))) p T (nJ (vx σ0)) := by
        intro T; unfold trb; rw [hcB, hb]; rfl
      obtain ⟨m1, m2, m3⟩ := hmin
      refine dp_step (c := lz τ 20) (by omega) hS trb_0 (fun S' hS' => (hall S' hS').2) ?_ m1 ?_
      · rcases m3 with z | ⟨T, x, hT, hx, hv⟩
        · exact Or.inl z
        · have hTS := zb_sub hT
          rw [how T (by omega)] at hx
          unfold owc at hx
          cases ht : trv (vx σ0) (od (vx σ0) (nJ (vx σ0))) p T (nJ (vx σ0)) with
          | none => rw [ht] at hx; simp at hx
          | some t =>
            rw [ht] at hx
            simp at hx
            refine Or.inr ⟨T, t, hT, by rw [htrb, ht], ?_⟩
            rw [hv, ← hx]
            rfl
      · intro T t hT0 hT ht
        rw [htrb] at ht
        have hTS := zb_sub hT
        have := m2 T (t * 2097152 + dgs p T (nJ (vx σ0))) (by omega) hT (by rw [how T (by omega)]; unfold owc; rw [ht]; rfl)
        exact this
theorem v_Planner_divide_73 (σ0 : MI) (τ0 : ML) (x6 : Int64) (x8 : Int32) (σ : MI) (τ : ML) (h : I_Planner_divide_73 σ0 τ0 x6 x8 σ τ) : s_Planner_divide_73 P_Planner_giveToNobody Q_Planner_giveToNobody P_Plan_isBarred Q_Plan_isBarred P_Planner_costOwn Q_Planner_costOwn P_Planner_joinOwn Q_Planner_joinOwn P_Planner_digitShift Q_Planner_digitShift σ τ x6 x8 (fun z0 z1 σ9 τ9 => I_Planner_divide_19 σ0 τ0 z0 z1 σ9 τ9 ∧ m_Planner_divide_19 σ0 τ0 z0 z1 σ9 τ9 < m_Planner_divide_73 σ0 τ0 x6 x8 σ τ) (fun z0 z1 σ9 τ9 => I_Planner_divide_73 σ0 τ0 z0 z1 σ9 τ9 ∧ m_Planner_divide_73 σ0 τ0 z0 z1 σ9 τ9 < m_Planner_divide_73 σ0 τ0 x6 x8 σ τ) (Q_Planner_divide σ0 τ0) := by
  obtain ⟨hP, hfs, hfr, a, i, hi, rfl, hopt, rfl, hlt, hall⟩ := h
  obtain ⟨hd, ho, hB⟩ := id hP
  have hn := hd.nJl
  have hnp := hd.nPl
  have e8 := vx_8 hd
  unfold s_Planner_divide_73
  rw [hfs 8 (by decide), e8, nI_leI (by omega) (by omega)]
  refine ⟨fun c => ⟨hfs, hfr, a, hopt, fun j hj => hall j (by omega)⟩, fun c => ⟨trivial, fun r s t hq => ?_⟩⟩
  obtain ⟨rfl, rfl, rfl⟩ := hq
  intro y hy
  have ha4 : ∀ j, j < nJ (vx σ0) → a j ≤ 4 := by
    intro j hj
    rcases hopt.1.1 j hj (by rw [Nat.testBit_two_pow_sub_one]; simp [hj]) with z | z <;> omega
  have e1 : (3 : Int32) * (6 - nI i) = nI (3 * (6 - i)) := by
    have : (6 : Int32) - nI i = nI (6 - i) := pk_sub (a := 6) (b := i) (by omega)
    rw [this]
    exact pk_mul 3 (6 - i)
  have hy2 : y = nI (a i) := by
    rw [hy, e1, wb_shrs (by omega) (by omega), lN_i]
    show nI _ &&& nI 7 = _
    rw [zb_and]
    congr 1
    rw [show (7 : Nat) = 2 ^ 3 - 1 from rfl, Nat.and_two_pow_sub_one_eq_mod, Nat.pow_mul]
    have hdg := dp_digits (a := a) (n := nJ (vx σ0)) (X := dp_none a (2 ^ nJ (vx σ0) - 1) (nJ (vx σ0)) * 524288 + dp_tv (trb (vx σ0) (σ0 22 1).toNatClampNeg) a (2 ^ nJ (vx σ0) - 1) (nJ (vx σ0)) (nP (vx σ0))) hn.1 ha4 i (by omega)
    unfold dp_cost
    have e2 : dp_none a (2 ^ nJ (vx σ0) - 1) (nJ (vx σ0)) * 1099511627776 + dp_tv (trb (vx σ0) (σ0 22 1).toNatClampNeg) a (2 ^ nJ (vx σ0) - 1) (nJ (vx σ0)) (nP (vx σ0)) * 2097152 = (dp_none a (2 ^ nJ (vx σ0) - 1) (nJ (vx σ0)) * 524288 + dp_tv (trb (vx σ0) (σ0 22 1).toNatClampNeg) a (2 ^ nJ (vx σ0) - 1) (nJ (vx σ0)) (nP (vx σ0))) * 2097152 := by omega
    rw [e2]
    exact hdg
  have hai := ha4 i (by omega)
  have hci : (nI i).toNatClampNeg = i := nI_clamp (by omega)
  have hend : ∀ (s9 : MI) (y9 : Int32), s9 = st2 σ 23 i (dv (a i)) → y9 = nI i + 1 → I_Planner_divide_73 σ0 τ0 (lN (dp_cost (trb (vx σ0) (σ0 22 1).toNatClampNeg) a (2 ^ nJ (vx σ0) - 1) (nJ (vx σ0)) (nP (vx σ0)))) y9 s9 τ ∧ m_Planner_divide_73 σ0 τ0 (lN (dp_cost (trb (vx σ0) (σ0 22 1).toNatClampNeg) a (2 ^ nJ (vx σ0) - 1) (nJ (vx σ0)) (nP (vx σ0)))) y9 s9 τ < m_Planner_divide_73 σ0 τ0 (lN (dp_cost (trb (vx σ0) (σ0 22 1).toNatClampNeg) a (2 ^ nJ (vx σ0) - 1) (nJ (vx σ0)) (nP (vx σ0)))) (nI i) σ τ := by
    intro s9 y9 hs hy9
    refine ⟨⟨hP, fun c hc => by rw [hs, st2_ne hc]; exact hfs c hc, hfr, a, i + 1, by omega, by rw [hy9, nI_1], hopt, rfl, hlt, fun j hj => ?_⟩, ?_⟩
    · rw [hs, st2_at]
      by_cases e : j = i
      · subst e; rw [if_pos ⟨rfl, rfl⟩]
      · rw [if_neg (fun z => e z.2)]; exact hall j (by omega)
    · unfold m_Planner_divide_73
      rw [hy9, nI_1, nI_clamp (by omega), hci]
      omega
  rw [hy2, z_le, z_nI (by omega), zc_4, hci]
  refine ⟨fun c2 => ⟨vp_in_nI (by omega) (by decide), fun s9 hs y9 hy9 => hend s9 y9 ?_ hy9⟩, fun c2 => ⟨vp_in_nI (by omega) (by decide), fun s9 hs y9 hy9 => hend s9 y9 ?_ hy9⟩⟩
  · rw [hs]; unfold dv; rw [if_pos (by omega)]
  · rw [hs]; unfold dv; rw [if_neg (by omega)]
theorem c_Planner_divide (l : Launch) (D : va_G) (ad : Nat → Nat) (ci cl : ClassId) : ∀ (sz : Nat) (σ0 : MI) (τ0 : ML), P_Planner_divide σ0 τ0 → gMv l D (xw ad ci cl) (xt ci cl) (xa ad) y_Planner_divide w_Planner_divide rm_Planner_divide [.ref (ad 19), .ref (ad 1), .ref (ad 8), .ref (ad 17), .ref (ad 22)] sz σ0 τ0 (Q_Planner_divide σ0 τ0) :=
  k_Planner_divide l D ad ci cl P_Planner_divide Q_Planner_divide P_Planner_giveToNobody Q_Planner_giveToNobody P_Plan_isBarred Q_Plan_isBarred P_Planner_costOwn Q_Planner_costOwn P_Planner_joinOwn Q_Planner_joinOwn P_Planner_digitShift Q_Planner_digitShift (c_Planner_giveToNobody l D ad ci cl) (c_Plan_isBarred l D ad ci cl) (c_Planner_costOwn l D ad ci cl) (c_Planner_joinOwn l D ad ci cl) (c_Planner_digitShift l D ad ci cl) I_Planner_divide_19 m_Planner_divide_19 I_Planner_divide_73 m_Planner_divide_73 v_Planner_divide_0 v_Planner_divide_19 v_Planner_divide_73
def failb (d : Dt) (z : Int) : Nat → Bool
  | 0 => false
  | n + 1 => failb d z n || (decide (z = 4) || (decide (z = 3) && decide (d 9 n = 5)))
theorem failb_iff (d : Dt) (z : Int) (n : Nat) : failb d z n = true ↔ ∃ j, j < n ∧ (z = 4 ∨ (z = 3 ∧ d 9 j = 5)) := by
  induction n with
  | zero => simp [failb]
  | succ n ih =>
    unfold failb
    rw [Bool.or_eq_true, ih]
    simp only [Bool.or_eq_true, Bool.and_eq_true, decide_eq_true_eq]
    constructor
    · rintro (⟨j, hj, h⟩ | h)
      · exact ⟨j, by omega, h⟩
      · exact ⟨n, by omega, h⟩
    · rintro ⟨j, hj, h⟩
      by_cases e : j = n
      · subst e; exact Or.inr h
      · exact Or.inl ⟨j, by omega, h⟩
def flp (d : Dt) (p : Nat) : Bool := failb d (d 6 p) (nJ d)
theorem flp_iff (d : Dt) (p : Nat) : flp d p = true ↔ failr d (d 6 p) := failb_iff d (d 6 p) (nJ d)
def barm (d : Dt) : Nat := dp_mk (flp d) (nP d)
def P_People_askRules (σ : MI) (τ : ML) : Prop := Vd (vx σ)
def bump (f : Nat → Int32) (d : Dt) (n : Nat) : Nat → Int32 := fun p => if p < n ∧ flp d p = true then f p + 1 else f p
def Q_People_askRules (σ : MI) (τ : ML) (r : Int32) (σ' : MI) (τ' : ML) : Prop := (∀ c, c ≠ 7 → σ' c = σ c) ∧ τ = τ' ∧ r = nI (barm (vx σ)) ∧ σ' 7 = bump (σ 7) (vx σ) (nP (vx σ))
def I_People_askRules_4 (σ0 : MI) (τ0 : ML) (x2 x3 : Int32) (σ : MI) (τ : ML) : Prop :=
  Vd (vx σ0) ∧ (∀ c, c ≠ 7 → σ c = σ0 c) ∧ τ0 = τ ∧ ∃ i, i ≤ nP (vx σ0) ∧ x3 = nI i ∧ x2 = nI (dp_mk (flp (vx σ0)) i) ∧ σ 7 = bump (σ0 7) (vx σ0) i
def m_People_askRules_4 (σ0 : MI) (τ0 : ML) (x2 x3 : Int32) (σ : MI) (τ : ML) : Nat := 100 - x3.toNatClampNeg
theorem vx_7 {σ σ0 : MI} (h : ∀ c, c ≠ 7 → σ c = σ0 c) : vx σ = vx σ0 :=
  vx_congr (by rw [h 1 (by decide)]) (by rw [h 8 (by decide)]) (by rw [h 15 (by decide)]) (by rw [h 17 (by decide)]) (fun c hc => h c (by rintro rfl; exact absurd hc (by decide)))
theorem or_pow {m i : Nat} (h : m < 2 ^ i) : m ||| 2 ^ i = m + 2 ^ i := by
  have := Nat.two_pow_add_eq_or_of_lt h 1
  rw [Nat.mul_one] at this
  rw [Nat.or_comm, ← this]
  omega
theorem bump_step (f : Nat → Int32) (d : Dt) (i : Nat) (h : flp d i = true) : upd (bump f d i) i (f i + 1) = bump f d (i + 1) := by
  funext p
  unfold upd bump
  by_cases e : p = i
  · subst e; simp [h]
  · have : (p < i + 1) ↔ (p < i) := by omega
    simp [e, this]
theorem bump_skip (f : Nat → Int32) (d : Dt) (i : Nat) (h : flp d i = false) : bump f d i = bump f d (i + 1) := by
  funext p
  unfold bump
  by_cases e : p = i
  · subst e; simp [h]
  · have : (p < i + 1) ↔ (p < i) := by omega
    simp [this]
theorem v_People_askRules_0 (σ0 : MI) (τ0 : ML) (h : P_People_askRules σ0 τ0) : s_People_askRules_0 P_People_failsForOne Q_People_failsForOne σ0 τ0 (fun z0 z1 σ9 τ9 => I_People_askRules_4 σ0 τ0 z0 z1 σ9 τ9) (Q_People_askRules σ0 τ0) := by
  unfold s_People_askRules_0
  refine ⟨h, fun _ _ => rfl, rfl, 0, Nat.zero_le _, rfl, rfl, ?_⟩
  funext p
  unfold bump
  simp
theorem v_People_askRules_4 (σ0 : MI) (τ0 : ML) (x2 : Int32) (x3 : Int32) (σ : MI) (τ : ML) (h : I_People_askRules_4 σ0 τ0 x2 x3 σ τ) : s_People_askRules_4 P_People_failsForOne Q_People_failsForOne σ τ x2 x3 (fun z0 z1 σ9 τ9 => I_People_askRules_4 σ0 τ0 z0 z1 σ9 τ9 ∧ m_People_askRules_4 σ0 τ0 z0 z1 σ9 τ9 < m_People_askRules_4 σ0 τ0 x2 x3 σ τ) (Q_People_askRules σ0 τ0) := by
  obtain ⟨hd, hfr, rfl, i, hi, rfl, rfl, h7⟩ := h
  have hnp := hd.nPl
  have e1 := vx_1 hd
  have evx := vx_7 hfr
  have hci : (nI i).toNatClampNeg = i := nI_clamp (by omega)
  have hmk := dp_mk_lt (flp (vx σ0)) i
  unfold s_People_askRules_4
  rw [hfr 1 (by decide), e1, nI_leI (by omega) (by omega), hci, hfr 6 (by decide)]
  have hp16 : 2 ^ i ≤ 2 ^ 4 := Nat.pow_le_pow_right (by decide) (by omega)
  refine ⟨fun c => ⟨hfr, rfl, ?_, ?_⟩, fun c => ⟨vp_in_nI (by omega) (by decide), by unfold P_People_failsForOne; rw [evx]; exact hd, fun r s t hq => ?_⟩⟩
  · have e : i = nP (vx σ0) := by omega
    subst e; rfl
  · have e : i = nP (vx σ0) := by omega
    subst e; exact h7
  · obtain ⟨rfl, rfl, hr⟩ := hq
    rw [evx] at hr
    have hfl : rb (flp (vx σ0) i = true) r := rb_imp hr (by rw [flp_iff]; exact Iff.rfl)
    have hm : ∀ (u y : Int32) (s9 : MI), y = nI i + 1 → m_People_askRules_4 σ0 τ0 u y s9 τ0 < m_People_askRules_4 σ0 τ0 (nI (dp_mk (flp (vx σ0)) i)) (nI i) σ τ0 := by
      intro u y s9 hy
      unfold m_People_askRules_4
      rw [hy, nI_1, nI_clamp (by omega), hci]
      omega
    refine ⟨fun c2 y hy => ⟨⟨hd, hfr, rfl, i + 1, by omega, by rw [hy, nI_1], ?_, ?_⟩, hm _ _ _ hy⟩, fun c2 => ⟨vp_in_nI (by omega) (by decide), vp_in_nI (by omega) (by decide), fun s34 h34 y40 h40 y41 h41 => ⟨⟨hd, fun c hc => by rw [h34, st2_ne hc]; exact hfr c hc, rfl, i + 1, by omega, by rw [h41, nI_1], ?_, ?_⟩, hm _ _ _ h41⟩⟩⟩
    · have := rb_0 hfl c2
      have hf : flp (vx σ0) i = false := by simpa using this
      show _ = nI (dp_mk (flp (vx σ0)) i + (if flp (vx σ0) i then 2 ^ i else 0))
      rw [hf]
      rfl
    · have := rb_0 hfl c2
      rw [h7]
      exact bump_skip _ _ _ (by simpa using this)
    · have := rb_1 hfl c2
      rw [h40, zb_one (by omega), zb_or, or_pow hmk]
      show _ = nI (dp_mk (flp (vx σ0)) i + (if flp (vx σ0) i then 2 ^ i else 0))
      rw [if_pos this]
    · have := rb_1 hfl c2
      have h77 : σ 7 i = σ0 7 i := by rw [h7]; unfold bump; simp
      rw [h34, h77, ← bump_step _ _ _ this, ← h7]
      unfold st2
      rw [if_pos rfl]
theorem c_People_askRules (l : Launch) (D : va_G) (ad : Nat → Nat) (ci cl : ClassId) : ∀ (sz : Nat) (σ0 : MI) (τ0 : ML), P_People_askRules σ0 τ0 → gMi l D (xw ad ci cl) (xt ci cl) (xa ad) y_People_askRules w_People_askRules rm_People_askRules [.ref (ad 1), .ref (ad 8)] sz σ0 τ0 (Q_People_askRules σ0 τ0) :=
  k_People_askRules l D ad ci cl P_People_askRules Q_People_askRules P_People_failsForOne Q_People_failsForOne (c_People_failsForOne l D ad ci cl) I_People_askRules_4 m_People_askRules_4 v_People_askRules_0 v_People_askRules_4
