def P_Mo_why (σ : MI) (τ : ML) (a1 : Int32) : Prop := Vd (vm σ) ∧ AV σ 43 ∧ σ 29 21 = nI (barm (vm σ)) ∧ vp_in a1 (nJ (vm σ))
def Q_Mo_why (σ : MI) (τ : ML) (a1 r : Int32) (σ' : MI) (τ' : ML) : Prop := σ = σ' ∧ τ = τ' ∧ Why (vm σ) (barm (vm σ)) a1.toNatClampNeg (agm σ a1.toNatClampNeg) r
def anyp (d : Dt) (j i : Nat) : Prop := ∃ q, q < i ∧ (barm d).testBit q = false ∧ d 9 j ≤ d 2 q
def alop (d : Dt) (j i : Nat) : Prop := ∃ q, q < i ∧ (barm d).testBit q = false ∧ trv d (od d (nJ d)) q (2 ^ j) (nJ d) ≠ none
def I_Mo_why_22 (σ0 : MI) (τ0 : ML) (a1 x1 x2 x3 x4 : Int32) (σ : MI) (τ : ML) : Prop :=
  σ0 = σ ∧ τ0 = τ ∧ a1 = x1 ∧ P_Mo_why σ0 τ0 a1 ∧ agm σ0 a1.toNatClampNeg = 4 ∧ ∃ i, i ≤ nP (vm σ0) ∧ x4 = nI i ∧ rb (anyp (vm σ0) a1.toNatClampNeg i) x2 ∧ rb (alop (vm σ0) a1.toNatClampNeg i) x3
def m_Mo_why_22 (σ0 : MI) (τ0 : ML) (a1 x1 x2 x3 x4 : Int32) (σ : MI) (τ : ML) : Nat := 100 - x4.toNatClampNeg
theorem trv_lic {d : Dt} {q j n : Nat} {o : Nat → Nat} (ho : IsOrd d n o) (hj : j < n) (h : trv d o q (2 ^ j) n ≠ none) : d 9 j ≤ d 2 q := by
  obtain ⟨l, hl, rfl⟩ := ho.2.2 j hj
  unfold trv at h
  split at h
  · exact absurd rfl h
  · cases hx : tvf d o q (2 ^ o l) (l + 1) with
    | none => rw [tvf_none (k := l + 1) (by omega) hx] at h; exact absurd rfl h
    | some x =>
      cases hy : tvf d o q (2 ^ o l) l with
      | none => rw [tvf_none (k := l) (by omega) hy] at hx; cases hx
      | some y =>
        obtain ⟨y1, y2, y3⟩ := y
        rw [tvf_succ hy, if_pos (Nat.testBit_two_pow_self)] at hx
        split at hx
        · rename_i hh; exact hh.1
        · cases hx
theorem anyp_s {d : Dt} {j i : Nat} : anyp d j (i + 1) ↔ anyp d j i ∨ ((barm d).testBit i = false ∧ d 9 j ≤ d 2 i) := by
  constructor
  · rintro ⟨q, h1, h2, h3⟩
    by_cases e : q = i
    · subst e; exact Or.inr ⟨h2, h3⟩
    · exact Or.inl ⟨q, by omega, h2, h3⟩
  · rintro (⟨q, h1, h2, h3⟩ | ⟨h2, h3⟩)
    · exact ⟨q, by omega, h2, h3⟩
    · exact ⟨i, by omega, h2, h3⟩
theorem alop_s {d : Dt} {j i : Nat} : alop d j (i + 1) ↔ alop d j i ∨ ((barm d).testBit i = false ∧ trv d (od d (nJ d)) i (2 ^ j) (nJ d) ≠ none) := by
  constructor
  · rintro ⟨q, h1, h2, h3⟩
    by_cases e : q = i
    · subst e; exact Or.inr ⟨h2, h3⟩
    · exact Or.inl ⟨q, by omega, h2, h3⟩
  · rintro (⟨q, h1, h2, h3⟩ | ⟨h2, h3⟩)
    · exact ⟨q, by omega, h2, h3⟩
    · exact ⟨i, by omega, h2, h3⟩
theorem v_Mo_why_0 (σ0 : MI) (τ0 : ML) (a1 : Int32) (h : P_Mo_why σ0 τ0 a1) : s_Mo_why_0 P_Mo_isBarred Q_Mo_isBarred P_Mo_cost Q_Mo_cost σ0 τ0 a1 (fun z0 z1 z2 z3 σ9 τ9 => I_Mo_why_22 σ0 τ0 a1 z0 z1 z2 z3 σ9 τ9) (Q_Mo_why σ0 τ0 a1) := by
  obtain ⟨hd, hA, hb, h1⟩ := id h
  have hnp := hd.nPl
  have hn := hd.nJl
  obtain ⟨j, hj, rfl⟩ := vp_in_of h1 (by omega)
  have hcj : (nI j).toNatClampNeg = j := nI_clamp (by omega)
  obtain ⟨a1, a2⟩ := hA j hj
  have e1 := vm_1 hd
  unfold s_Mo_why_0
  rw [hcj, e1, a1, nI_leI (by omega) (by omega)]
  refine ⟨vp_less h1 (by omega), fun c => ⟨rfl, rfl, rfl, h, by rw [hcj, agm_4 hd]; omega, 0, Nat.zero_le _, rfl, rb_f (fun z => ?_), rb_f (fun z => ?_)⟩, fun c => ⟨rfl, rfl, Or.inl ⟨fun z => ?_, rfl⟩⟩⟩
  · obtain ⟨q, hq, _⟩ := z; omega
  · obtain ⟨q, hq, _⟩ := z; omega
  · rw [hcj, agm_4 hd] at z; omega
theorem v_Mo_why_22 (σ0 : MI) (τ0 : ML) (a1 : Int32) (x1 : Int32) (x2 : Int32) (x3 : Int32) (x4 : Int32) (σ : MI) (τ : ML) (h : I_Mo_why_22 σ0 τ0 a1 x1 x2 x3 x4 σ τ) : s_Mo_why_22 P_Mo_isBarred Q_Mo_isBarred P_Mo_cost Q_Mo_cost σ τ x1 x2 x3 x4 (fun z0 z1 z2 z3 σ9 τ9 => I_Mo_why_22 σ0 τ0 a1 z0 z1 z2 z3 σ9 τ9 ∧ m_Mo_why_22 σ0 τ0 a1 z0 z1 z2 z3 σ9 τ9 < m_Mo_why_22 σ0 τ0 a1 x1 x2 x3 x4 σ τ) (Q_Mo_why σ0 τ0 a1) := by
  obtain ⟨rfl, rfl, rfl, hP, h4, i, hi, rfl, h2, h3⟩ := h
  obtain ⟨hd, hA, hb, h1⟩ := id hP
  have hnp := hd.nPl
  have hn := hd.nJl
  obtain ⟨j, hj, rfl⟩ := vp_in_of h1 (by omega)
  have hcj : (nI j).toNatClampNeg = j := nI_clamp (by omega)
  have hci : (nI i).toNatClampNeg = i := nI_clamp (by omega)
  have e1 := vm_1 hd
  have ho := od_ok (vm σ0) (nJ (vm σ0))
  rw [hcj] at h2 h3 h4
  have hbl := barm_lt hd
  have hj7 : vp_in (nI j) 7 := vp_less h1 (by omega)
  have hlic := fun q => trv_lic (q := q) ho hj
  unfold s_Mo_why_22
  rw [e1, nI_leI (by omega) (by omega)]
  refine ⟨fun c => ?_, fun c => ?_⟩
  · have e : i = nP (vm σ0) := by omega
    subst e
    refine ⟨fun c2 => ⟨fun c3 => ⟨rfl, rfl, Or.inr ⟨by rw [hcj]; exact h4, Or.inl ⟨?_, rfl⟩⟩⟩, fun c3 => ⟨rfl, rfl, Or.inr ⟨by rw [hcj]; exact h4, Or.inr ⟨?_, Or.inl ⟨?_, rfl⟩⟩⟩⟩⟩, fun c2 => ⟨rfl, rfl, Or.inr ⟨by rw [hcj]; exact h4, Or.inr ⟨?_, Or.inr ⟨?_, rfl⟩⟩⟩⟩⟩
    · rw [hcj]
      obtain ⟨q, z1, z2, z3⟩ := rb_1 h3 c3
      exact ⟨q, z1, z2, hlic q z3, z3⟩
    · rw [hcj]
      intro q z1 z2 z3
      have := rb_0 h3 c3
      cases hx : trv (vm σ0) (od (vm σ0) (nJ (vm σ0))) q (2 ^ j) (nJ (vm σ0)) with
      | none => rfl
      | some t => exact absurd ⟨q, z1, z2, by rw [hx]; exact fun z => by cases z⟩ this
    · rw [hcj]
      obtain ⟨q, z1, z2, z3⟩ := rb_1 h2 c2
      exact ⟨q, z1, z2, z3⟩
    · rw [hcj]
      intro q z1 z2 z3
      exact absurd ⟨q, z1, z2, z3⟩ (rb_0 h2 c2)
    · rw [hcj]
      intro q z1 z2 z3
      exact absurd ⟨q, z1, z2, z3⟩ (rb_0 h2 c2)
  · have hlt : i < nP (vm σ0) := by omega
    have hi4 : vp_in (nI i) 4 := vp_in_nI (by omega) (by decide)
    have hm : ∀ (u2 u3 y : Int32), y = nI i + 1 → m_Mo_why_22 σ0 τ0 (nI j) (nI j) u2 u3 y σ0 τ0 < m_Mo_why_22 σ0 τ0 (nI j) (nI j) x2 x3 (nI i) σ0 τ0 := by
      intro u2 u3 y hy
      unfold m_Mo_why_22
      rw [hy, nI_1, hci, nI_clamp (by omega)]
      omega
    have h66 : ∀ u : Int32, rb (anyp (vm σ0) j (i + 1)) u → s_Mo_why_66 P_Mo_isBarred Q_Mo_isBarred P_Mo_cost Q_Mo_cost σ0 τ0 (nI j) u x3 (nI i) (fun z0 z1 z2 z3 σ9 τ9 => I_Mo_why_22 σ0 τ0 (nI j) z0 z1 z2 z3 σ9 τ9 ∧ m_Mo_why_22 σ0 τ0 (nI j) z0 z1 z2 z3 σ9 τ9 < m_Mo_why_22 σ0 τ0 (nI j) (nI j) x2 x3 (nI i) σ0 τ0) (Q_Mo_why σ0 τ0 (nI j)) := by
      intro u hu
      have hend : ∀ (w y : Int32), rb (alop (vm σ0) j (i + 1)) w → y = nI i + 1 → I_Mo_why_22 σ0 τ0 (nI j) (nI j) u w y σ0 τ0 ∧ m_Mo_why_22 σ0 τ0 (nI j) (nI j) u w y σ0 τ0 < m_Mo_why_22 σ0 τ0 (nI j) (nI j) x2 x3 (nI i) σ0 τ0 := fun w y hw hy => ⟨⟨rfl, rfl, rfl, hP, by rw [hcj]; exact h4, i + 1, by omega, by rw [hy, nI_1], by rw [hcj]; exact hu, by rw [hcj]; exact hw⟩, hm _ _ _ hy⟩
      unfold s_Mo_why_66
      rw [zb_one (by omega)]
      refine ⟨fun c2 y hy => hend 1 y (rb_t (alop_s.mpr (Or.inl (rb_1 h3 c2)))) hy, fun c2 => ⟨trivial, fun r73 s73 t73 hq => ?_⟩⟩
      obtain ⟨rfl, rfl, hr⟩ := hq
      rw [hb, bit_1 (by omega) (by omega)] at hr
      have hno := rb_0 h3 c2
      refine ⟨fun c3 y hy => hend 0 y (rb_f (fun z => ?_)) hy, fun c3 => ⟨⟨hd, hi4, vp_in_nI (Nat.pow_lt_pow_right (by decide) hj) (Nat.pow_lt_pow_right (by decide) (by omega))⟩, fun r85 s85 t85 hq => ?_⟩⟩
      · rcases alop_s.mp z with w | w
        · exact hno w
        · rw [rb_1 hr c3] at w; cases w.1
      · obtain ⟨rfl, rfl, hc⟩ := hq
        have hbf : (barm (vm σ0)).testBit i = false := by have := rb_0 hr c3; simpa using this
        have hp7 : 2 ^ j ≤ 2 ^ 7 := Nat.pow_le_pow_right (by decide) (by omega)
        rw [hci, nI_clamp (by omega)] at hc
        have hle := fun t ht => trv_rng (o := od (vm σ0) (nJ (vm σ0))) (n := nJ (vm σ0)) hd (p := i) (S := 2 ^ j) (t := t) (by omega) hn.1 (fun k hk => by have := ho.1 k hk; omega) ht
        have hfar : 1000000000 ≤ r85 ↔ trv (vm σ0) (od (vm σ0) (nJ (vm σ0))) i (2 ^ j) (nJ (vm σ0)) = none := by
          rw [hc]
          cases hx : trv (vm σ0) (od (vm σ0) (nJ (vm σ0))) i (2 ^ j) (nJ (vm σ0)) with
          | none => simp [fv]
          | some t =>
            have := hle t hx
            rw [z_le, zc_far]
            unfold fv
            rw [z_nI (by omega)]
            simp only [reduceCtorEq, iff_false]
            omega
        rw [hfar]
        refine ⟨fun c4 y hy => hend 0 y (rb_f (fun z => ?_)) hy, fun c4 y hy => hend 1 y (rb_t (alop_s.mpr (Or.inr ⟨hbf, c4⟩))) hy⟩
        rcases alop_s.mp z with w | w
        · exact hno w
        · exact w.2 c4
    refine ⟨fun c2 => h66 1 (rb_t (anyp_s.mpr (Or.inl (rb_1 h2 c2)))), fun c2 => ⟨trivial, fun r38 s38 t38 hq => ?_⟩⟩
    obtain ⟨rfl, rfl, hr⟩ := hq
    rw [hb, bit_1 (by omega) (by omega)] at hr
    have hno := rb_0 h2 c2
    rw [hci, hcj, z_lt]
    have q9 : vm σ0 9 j = (σ0 37 j).toInt := rfl
    have q2 : vm σ0 2 i = (σ0 30 i).toInt := rfl
    refine ⟨fun c3 => h66 0 (rb_f (fun z => ?_)), fun c3 => ⟨hi4, hj7, fun c4 => h66 0 (rb_f (fun z => ?_)), fun c4 => h66 1 (rb_t (anyp_s.mpr (Or.inr ⟨?_, ?_⟩)))⟩⟩
    · rcases anyp_s.mp z with w | w
      · exact hno w
      · rw [rb_1 hr c3] at w; cases w.1
    · rcases anyp_s.mp z with w | w
      · exact hno w
      · have := w.2; omega
    · have := rb_0 hr c3; simpa using this
    · omega
theorem c_Mo_why (l : Launch) (D : va_G) (ad : Nat → Nat) (ci cl : ClassId) : ∀ (sz : Nat) (σ0 : MI) (τ0 : ML) (a1 : Int32), P_Mo_why σ0 τ0 a1 → gMi l D (xw ad ci cl) (xt ci cl) (xa ad) y_Mo_why w_Mo_why rm_Mo_why [.ref (ad 29), .int a1] sz σ0 τ0 (Q_Mo_why σ0 τ0 a1) :=
  k_Mo_why l D ad ci cl P_Mo_why Q_Mo_why P_Mo_isBarred Q_Mo_isBarred P_Mo_cost Q_Mo_cost (c_Mo_isBarred l D ad ci cl) (c_Mo_cost l D ad ci cl) I_Mo_why_22 m_Mo_why_22 v_Mo_why_0 v_Mo_why_22
/-- what of answers -/
def OfA (d : Dt) (a t : Nat → Nat) (j : Nat) (what r : Int32) : Prop :=
  (what = 0 → r = dv (a j)) ∧ (what = 1 → ∃ l, l < nJ d ∧ od d (nJ d) l = j ∧ r = if a j < nP d then nI (ttn d (od d (nJ d)) a (a j) l) else -1) ∧
  (what = 2 → r = nI (t j)) ∧ (what = 3 → r = if a j ≠ 4 ∧ 0 < d 10 j ∧ t j = 0 then 1 else 0) ∧ (what = 4 → Why d (barm d) j (a j) r)
def ofok (n : Int) (a1 a2 : Int32) : Prop := (0 ≤ a1.toInt ∧ a1.toInt < n) ∧ (0 ≤ a2.toInt ∧ a2.toInt ≤ 4)
def P_Mo_of (σ : MI) (τ : ML) (a1 a2 : Int32) : Prop := Vd (vm σ) ∧ (σ 29 18 ≠ 0 → PLM σ)
def Q_Mo_of (σ : MI) (τ : ML) (a1 a2 r : Int32) (σ' : MI) (τ' : ML) : Prop :=
  τ = τ' ∧ ((¬ ofok (σ 29 10).toInt a1 a2 ∧ σ' = st2 σ 29 0 1) ∨ (ofok (σ 29 10).toInt a1 a2 ∧ σ 29 18 = 0 ∧ σ' = st2 σ 29 0 2) ∨ (ofok (σ 29 10).toInt a1 a2 ∧ σ 29 18 ≠ 0 ∧ OfA (vm σ) (agm σ) (tgm σ) a1.toNatClampNeg a2 r ∧ σ' = st2 σ 29 0 0))
theorem PLM_290 {σ : MI} {v : Int32} (h : PLM σ) : PLM (st2 σ 29 0 v) := PLM_congr (fun c h1 _ _ _ => Or.inr (st2_ne h1)) (fun i h1 _ => by rw [st2_at, if_neg (by omega)]) h
theorem agm_290 {σ : MI} {v : Int32} : agm (st2 σ 29 0 v) = agm σ := by
  unfold agm av; rw [vm_290, st2_ne (by decide)]
theorem tgm_290 {σ : MI} {v : Int32} : tgm (st2 σ 29 0 v) = tgm σ := by
  unfold tgm; rw [st2_ne (by decide)]
theorem dv_nb {σ : MI} (hd : Vd (vm σ)) {j : Nat} (h : σ 43 j = nI (av σ 43 j) ∧ av σ 43 j ≤ nP (vm σ)) : (av σ 43 j < nP (vm σ) → dv (agm σ j) = σ 43 j) ∧ (¬ av σ 43 j < nP (vm σ) → dv (agm σ j) = -1) := by
  have hnp := hd.nPl
  unfold agm nb dv
  refine ⟨fun z => ?_, fun z => ?_⟩
  · rw [if_pos z, if_neg (by omega)]; exact h.1.symm
  · rw [if_neg z, if_pos rfl]
theorem v_Mo_of_0 (σ0 : MI) (τ0 : ML) (a1 : Int32) (a2 : Int32) (h : P_Mo_of σ0 τ0 a1 a2) : s_Mo_of_0 P_Mo_isJob Q_Mo_isJob P_Mo_in Q_Mo_in P_Mo_travelTo Q_Mo_travelTo P_Mo_why Q_Mo_why σ0 τ0 a1 a2 (Q_Mo_of σ0 τ0 a1 a2) := by
  obtain ⟨hd, hL⟩ := id h
  have hnp := hd.nPl
  have hn := hd.nJl
  have e8 := vm_8 hd
  unfold s_Mo_of_0
  have href : ∀ (v : Int32) (s34 : MI), ¬ v ≤ 0 → s34 = st2 σ0 29 0 v → Q_Mo_of σ0 τ0 a1 a2 0 s34 τ0 → s_Mo_of_37 P_Mo_isJob Q_Mo_isJob P_Mo_in Q_Mo_in P_Mo_travelTo Q_Mo_travelTo P_Mo_why Q_Mo_why s34 τ0 a1 a2 (Q_Mo_of σ0 τ0 a1 a2) := by
    intro v s34 hv hs hQ
    have e0 : s34 29 0 = v := by rw [hs, st2_at, if_pos ⟨rfl, rfl⟩]
    unfold s_Mo_of_37
    rw [e0]
    exact ⟨fun c => absurd c hv, fun _ => hQ⟩
  refine ⟨trivial, fun r3 s3 t3 hq => ?_⟩
  obtain ⟨rfl, rfl, h3⟩ := hq
  refine ⟨fun c s34 h34 => href 1 s34 (by decide) h34 ⟨rfl, Or.inl ⟨fun z => rb_0 h3 c z.1, h34⟩⟩, fun c => ⟨trivial, fun r12 s12 t12 hq => ?_⟩⟩
  obtain ⟨rfl, rfl, h12⟩ := hq
  rw [zc_0, zc_4] at h12
  have hj := rb_1 h3 c
  refine ⟨fun c2 => ⟨fun c3 s34 h34 => href 2 s34 (by decide) h34 ⟨rfl, Or.inr (Or.inl ⟨⟨hj, rb_1 h12 c2⟩, c3, h34⟩)⟩, fun c3 s34 h34 => ?_⟩, fun c2 s34 h34 => href 1 s34 (by decide) h34 ⟨rfl, Or.inl ⟨fun z => rb_0 h12 c2 z.2, h34⟩⟩⟩
  have hok : ofok (σ0 29 10).toInt a1 a2 := ⟨hj, rb_1 h12 c2⟩
  have hPL := hL c3
  have hPL34 : PLM s34 := by rw [h34]; exact PLM_290 hPL
  have hvm : vm s34 = vm σ0 := by rw [h34]; exact vm_290
  have hd34 : Vd (vm s34) := by rw [hvm]; exact hd
  have hne : ∀ c, c ≠ 29 → s34 c = σ0 c := fun c hc => by rw [h34, st2_ne hc]
  have h291 : s34 29 1 = nI (nP (vm σ0)) := by rw [h34, st2_at, if_neg (by decide)]; exact vm_1 hd
  have h290 : s34 29 0 = 0 := by rw [h34, st2_at, if_pos ⟨rfl, rfl⟩]
  obtain ⟨j, hjn, rfl⟩ : ∃ j, j < nJ (vm σ0) ∧ a1 = nI j := by
    rw [e8, z_nI (by omega)] at hj
    exact ⟨a1.toInt.toNat, by omega, z_of hj.1⟩
  have hcj : (nI j).toNatClampNeg = j := nI_clamp (by omega)
  have hj7 : vp_in (nI j) 7 := vp_in_nI (by omega) (by decide)
  have hAj := hPL.1 j hjn
  have hdv := dv_nb hd hAj
  have hend : ∀ r, OfA (vm σ0) (agm σ0) (tgm σ0) j a2 r → Q_Mo_of σ0 τ0 (nI j) a2 r s34 τ0 := fun r hr => ⟨rfl, Or.inr (Or.inr ⟨hok, c3, by rw [hcj]; exact hr, h34⟩)⟩
  have h83 : ∀ x3 : Int32, (x3 ≠ 0 ↔ (agm σ0 j ≠ 4 ∧ 0 < vm σ0 10 j ∧ tgm σ0 j = 0)) → s_Mo_of_83 P_Mo_isJob Q_Mo_isJob P_Mo_in Q_Mo_in P_Mo_travelTo Q_Mo_travelTo P_Mo_why Q_Mo_why s34 τ0 (nI j) a2 x3 (Q_Mo_of σ0 τ0 (nI j) a2) := by
    intro x3 hx3
    have k0 : ∀ r, a2 = 0 → r = dv (agm σ0 j) → OfA (vm σ0) (agm σ0) (tgm σ0) j a2 r := fun r e hr => ⟨fun _ => hr, fun z => absurd (e.symm.trans z) (by decide), fun z => absurd (e.symm.trans z) (by decide), fun z => absurd (e.symm.trans z) (by decide), fun z => absurd (e.symm.trans z) (by decide)⟩
    have k1 : ∀ r, a2 = 1 → (∃ l, l < nJ (vm σ0) ∧ od (vm σ0) (nJ (vm σ0)) l = j ∧ r = if agm σ0 j < nP (vm σ0) then nI (ttn (vm σ0) (od (vm σ0) (nJ (vm σ0))) (agm σ0) (agm σ0 j) l) else -1) → OfA (vm σ0) (agm σ0) (tgm σ0) j a2 r := fun r e hr => ⟨fun z => absurd (e.symm.trans z) (by decide), fun _ => hr, fun z => absurd (e.symm.trans z) (by decide), fun z => absurd (e.symm.trans z) (by decide), fun z => absurd (e.symm.trans z) (by decide)⟩
    have k2 : ∀ r, a2 = 2 → r = nI (tgm σ0 j) → OfA (vm σ0) (agm σ0) (tgm σ0) j a2 r := fun r e hr => ⟨fun z => absurd (e.symm.trans z) (by decide), fun z => absurd (e.symm.trans z) (by decide), fun _ => hr, fun z => absurd (e.symm.trans z) (by decide), fun z => absurd (e.symm.trans z) (by decide)⟩
    have k3 : ∀ r, a2 = 3 → (r = if agm σ0 j ≠ 4 ∧ 0 < vm σ0 10 j ∧ tgm σ0 j = 0 then 1 else 0) → OfA (vm σ0) (agm σ0) (tgm σ0) j a2 r := fun r e hr => ⟨fun z => absurd (e.symm.trans z) (by decide), fun z => absurd (e.symm.trans z) (by decide), fun z => absurd (e.symm.trans z) (by decide), fun _ => hr, fun z => absurd (e.symm.trans z) (by decide)⟩
    unfold s_Mo_of_83
    rw [hcj, hne 43 (by decide), hne 44 (by decide), h291]
    refine ⟨fun e => ⟨hj7, fun c4 => hend _ (k0 _ e ?_), fun c4 => ⟨hj7, hend _ (k0 _ e ?_)⟩⟩, fun e0 => ⟨fun e => ⟨⟨hd34, hPL34.1, by rw [hvm]; exact vp_in_nI hjn (by omega)⟩, fun r142 s142 t142 hq => ?_⟩, fun e1 => ⟨fun e => ⟨hj7, hend _ (k2 _ e (hPL.2.2.2.1 j hjn))⟩, fun e2 => ⟨fun e => ⟨fun c4 => hend _ (k3 _ e ?_), fun c4 => hend _ (k3 _ e ?_)⟩, fun e3 => ⟨⟨hd34, hPL34.1, hPL34.2.1, by rw [hvm]; exact vp_in_nI hjn (by omega)⟩, fun r165 s165 t165 hq => ?_⟩⟩⟩⟩⟩
    · rw [hAj.1, nI_leI (by omega) (by omega)] at c4
      exact (hdv.2 (by omega)).symm
    · rw [hAj.1, nI_leI (by omega) (by omega)] at c4
      exact (hdv.1 (by omega)).symm
    · obtain ⟨rfl, rfl, l, hl, el, hr⟩ := hq
      rw [hvm] at hl el
      have hol := (od_ok (vm σ0) (nJ (vm σ0))).1 l hl
      rw [nI_eq (by omega) (by omega)] at el
      refine hend _ (k1 _ e ⟨l, hl, el.symm, ?_⟩)
      rw [hr]
      unfold ttm
      rw [hvm, h34, agm_290, ← el]
    · rw [if_neg (fun z => hx3.mpr z c4)]
    · rw [if_pos (hx3.mp c4)]
    · obtain ⟨rfl, rfl, hw⟩ := hq
      have e4 : a2 = 4 := by
        have := hok.2
        rw [z_eq, zc_0] at e0
        rw [z_eq, zc_1] at e1
        rw [z_eq, zc_2] at e2
        rw [z_eq, zc_3] at e3
        rw [z_eq, zc_4]
        omega
      rw [hvm, hcj, h34, agm_290] at hw
      exact hend _ ⟨fun z => absurd z e0, fun z => absurd z e1, fun z => absurd z e2, fun z => absurd z e3, fun _ => hw⟩
  unfold s_Mo_of_37
  rw [h290, hcj, hne 43 (by decide), hne 44 (by decide), hne 38 (by decide), h291, hAj.1, nI_leI (by omega) (by omega)]
  have q10 : vm σ0 10 j = (σ0 38 j).toInt := rfl
  have h44 : σ0 44 j = 0 ↔ tgm σ0 j = 0 := by
    have e := hPL.2.2.2.1 j hjn
    have hlt := tgs_lt _ _ hPL.2.2.2.2 j hjn
    have hp64 : 2 ^ nT (vm σ0) ≤ 2 ^ 6 := Nat.pow_le_pow_right (by decide) hd.nTl.1
    rw [e]
    exact nI_eq (b := 0) (by omega) (by decide)
  have h38 : σ0 38 j ≤ 0 ↔ vm σ0 10 j ≤ 0 := by rw [z_le, zc_0, q10]
  rw [h38, h44]
  refine ⟨fun _ => ⟨hj7, fun c4 => h83 0 ⟨fun z => absurd rfl z, fun z => absurd ((agm_4 hd).mpr (by omega)) z.1⟩, fun c4 => ⟨hj7, fun c5 => h83 0 ⟨fun z => absurd rfl z, fun z => by omega⟩, fun c5 => ⟨hj7, fun c6 => h83 0 ⟨fun z => absurd rfl z, fun z => absurd z.2.2 c6⟩, fun c6 => h83 1 ⟨fun _ => ⟨fun z => (agm_4 hd).mp z (by omega), by omega, c6⟩, fun _ => by decide⟩⟩⟩⟩, fun c => absurd (by decide) c⟩
theorem c_Mo_of (l : Launch) (D : va_G) (ad : Nat → Nat) (ci cl : ClassId) : ∀ (sz : Nat) (σ0 : MI) (τ0 : ML) (a1 : Int32) (a2 : Int32), P_Mo_of σ0 τ0 a1 a2 → gMi l D (xw ad ci cl) (xt ci cl) (xa ad) y_Mo_of w_Mo_of rm_Mo_of [.ref (ad 29), .int a1, .int a2] sz σ0 τ0 (Q_Mo_of σ0 τ0 a1 a2) :=
  k_Mo_of l D ad ci cl P_Mo_of Q_Mo_of P_Mo_isJob Q_Mo_isJob P_Mo_in Q_Mo_in P_Mo_travelTo Q_Mo_travelTo P_Mo_why Q_Mo_why (c_Mo_isJob l D ad ci cl) (c_Mo_in l D ad ci cl) (c_Mo_travelTo l D ad ci cl) (c_Mo_why l D ad ci cl) v_Mo_of_0
