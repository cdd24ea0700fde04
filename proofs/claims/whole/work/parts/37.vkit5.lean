/-! the people's ways behind the reference's plan -/
theorem wat_skip {d : Dt} {o a : Nat → Nat} {p k n : Nat} (hk : k ≤ n) (h : ∀ i, k ≤ i → i < n → a (o i) ≠ p) : wat d o a p n = wat d o a p k := by
  induction n with
  | zero => have : k = 0 := by omega
            subst this; rfl
  | succ n ih =>
    by_cases e : k = n + 1
    · subst e; rfl
    · show (if a (o n) = p then _ else wat d o a p n) = _
      rw [if_neg (h n (by omega) (by omega)), ih (by omega) (fun i a b => h i a (by omega))]
theorem cnp_skip {o a : Nat → Nat} {p k n : Nat} (hk : k ≤ n) (h : ∀ i, k ≤ i → i < n → a (o i) ≠ p) : cnp o a p n = cnp o a p k := by
  induction n with
  | zero => have : k = 0 := by omega
            subst this; rfl
  | succ n ih =>
    by_cases e : k = n + 1
    · subst e; rfl
    · show cnp o a p n + (if a (o n) = p then 1 else 0) = _
      rw [if_neg (h n (by omega) (by omega)), ih (by omega) (fun i a b => h i a (by omega))]; rfl
theorem cnp_mono {o a : Nat → Nat} {p : Nat} : ∀ n k, k ≤ n → cnp o a p k ≤ cnp o a p n := by
  intro n
  induction n with
  | zero => intro k hk; have : k = 0 := by omega
            subst this; exact Nat.le_refl _
  | succ n ih =>
    intro k hk
    by_cases e : k = n + 1
    · subst e; exact Nat.le_refl _
    · have := ih k (by omega)
      show _ ≤ cnp o a p n + _
      omega
theorem cnp_hit {o a : Nat → Nat} {p l n : Nat} (hl : l < n) (h : a (o l) = p) : cnp o a p l < cnp o a p n := by
  have h1 := cnp_mono (o := o) (a := a) (p := p) n (l + 1) hl
  have h2 : cnp o a p (l + 1) = cnp o a p l + 1 := by
    show cnp o a p l + (if a (o l) = p then 1 else 0) = _
    rw [if_pos h]
  omega
theorem cnp_le (o a : Nat → Nat) (p k : Nat) : cnp o a p k ≤ k := by
  induction k with
  | zero => exact Nat.le_refl 0
  | succ k ih => show cnp o a p k + _ ≤ _; split <;> omega
theorem tvf_wat {d : Dt} (hd : Vd d) {o a : Nat → Nat} {p S n : Nat} (hp : p < 4) (ho : ∀ k, k < n → o k < 7) (hS : ∀ i, i < n → (S.testBit (o i) = true ↔ a (o i) = p)) : ∀ k x f t, k ≤ n → tvf d o p S k = some (x, f, t) → x = wat d o a p k ∧ t = trs d o a p k := by
  intro k
  induction k with
  | zero =>
    intro x f t _ h
    simp only [tvf, Option.some.injEq, Prod.mk.injEq] at h
    exact ⟨h.1.symm, by show t = ((0 : Nat) : Int); omega⟩
  | succ k ih =>
    intro x f t hk h
    cases hx : tvf d o p S k with
    | none => rw [tvf_none (k := k) (by omega) hx] at h; cases h
    | some y =>
      obtain ⟨x1, f1, t1⟩ := y
      obtain ⟨e1, e2⟩ := ih x1 f1 t1 (by omega) hx
      have hw := wat_rng hd (a := a) hp ho k (by omega)
      have hj := hd.job (ho k (by omega))
      have hway := hd.way (k := (wat d o a p k * 5 + d 13 (o k)).toNat) (by omega)
      rw [tvf_succ hx, e1] at h
      have hb := hS k (by omega)
      by_cases z : a (o k) = p
      · rw [if_pos (hb.mpr z)] at h
        split at h
        · simp only [Option.some.injEq, Prod.mk.injEq] at h
          refine ⟨?_, ?_⟩
          · rw [← h.1]; show _ = if a (o k) = p then _ else _; rw [if_pos z]
          · rw [← h.2.2, e2]
            show _ = ((trs d o a p k + (if a (o k) = p then ttn d o a p k else 0) : Nat) : Int)
            rw [if_pos z]
            unfold ttn
            omega
        · cases h
      · rw [if_neg (fun q => z (hb.mp q))] at h
        simp only [Option.some.injEq, Prod.mk.injEq] at h
        refine ⟨?_, ?_⟩
        · rw [← h.1]; show _ = if a (o k) = p then _ else _; rw [if_neg z]
        · rw [← h.2.2, e2]
          show _ = ((trs d o a p k + (if a (o k) = p then ttn d o a p k else 0) : Nat) : Int)
          rw [if_neg z]; rfl
theorem trv_trs {d : Dt} (hd : Vd d) {o a : Nat → Nat} {p S n t : Nat} (hp : p < 4) (ho : ∀ k, k < n → o k < 7) (hS : ∀ i, i < n → (S.testBit (o i) = true ↔ a (o i) = p)) (h : trv d o p S n = some t) : t = trs d o a p n := by
  unfold trv at h
  split at h
  · cases h
  · cases hx : tvf d o p S n with
    | none => rw [hx] at h; cases h
    | some y =>
      obtain ⟨x, f, u⟩ := y
      rw [hx] at h
      have := (tvf_wat hd hp ho hS n x f u (Nat.le_refl n) hx).2
      have h2 : u.toNat = t := by simpa using h
      omega
theorem agm_p {σ : MI} (hd : Vd (vm σ)) {j p : Nat} (hp : p < nP (vm σ)) : agm σ j = p ↔ av σ 43 j = p := by
  have hnp := hd.nPl
  unfold agm nb
  by_cases z : av σ 43 j < nP (vm σ)
  · rw [if_pos z]
  · rw [if_neg z]; omega
theorem agm_4 {σ : MI} (hd : Vd (vm σ)) {j : Nat} : agm σ j = 4 ↔ ¬ av σ 43 j < nP (vm σ) := by
  have hnp := hd.nPl
  unfold agm nb
  by_cases z : av σ 43 j < nP (vm σ)
  · rw [if_pos z]; omega
  · rw [if_neg z]; omega
theorem agm_lt {σ : MI} (hd : Vd (vm σ)) {j : Nat} : agm σ j < nP (vm σ) ↔ av σ 43 j < nP (vm σ) := by
  have hnp := hd.nPl
  unfold agm nb
  by_cases z : av σ 43 j < nP (vm σ)
  · rw [if_pos z]
  · rw [if_neg z]; omega
theorem gto_bit {σ : MI} {p i n : Nat} (hi : i < n) : (dp_mk (fun j => av σ 43 j == p) n).testBit i = true ↔ av σ 43 i = p := by
  rw [dp_mk_bit]; simp [hi]
/-- every person may do what is theirs -/
theorem OPT_trv {d : Dt} (hd : Vd d) {g : Nat → Nat} (ho : OPT d (barm d) (nb (nP d) g)) {q : Nat} (hq : q < nP d) : ∃ t, trv d (od d (nJ d)) q (dp_mk (fun j => g j == q) (nJ d)) (nJ d) = some t := by
  obtain ⟨t, ht⟩ := ho.1.2 q hq
  rw [nb_of hd.nPl.1 g hq] at ht
  unfold trb at ht
  split at ht
  · split at ht
    · rename_i e
      exact ⟨0, by rw [e]; exact trv_0⟩
    · cases ht
  · exact ⟨t, ht⟩
theorem smP_congr {f g : Nat → Nat} {n : Nat} (h : ∀ p, p < n → f p = g p) : smP f n = smP g n := by
  induction n with
  | zero => rfl
  | succ n ih => unfold smP; rw [ih (fun p hp => h p (by omega)), h n (by omega)]
theorem smP_le {f : Nat → Nat} {n : Nat} (B : Nat) (h : ∀ p, p < n → f p ≤ B) : smP f n ≤ B * n := by
  induction n with
  | zero => simp [smP]
  | succ n ih =>
    have := ih (fun p hp => h p (by omega))
    have := h n (by omega)
    unfold smP
    rw [Nat.mul_succ]; omega
/-- what changes neither plan nor data -/
theorem PLM_congr {σ σ' : MI} (h : ∀ c, c ≠ 29 → c ≠ 35 → c ≠ 45 → c ≠ 46 → c < 29 ∨ σ' c = σ c) (h29 : ∀ i, i ≠ 0 → i ≠ 18 → σ' 29 i = σ 29 i) (hp : PLM σ) : PLM σ' := by
  have e : vm σ' = vm σ := vm_congr (h29 1 (by decide) (by decide)) (h29 10 (by decide) (by decide)) (h29 8 (by decide) (by decide)) (h29 17 (by decide) (by decide)) (fun c hc => by
    simp only [List.mem_cons, List.not_mem_nil, or_false] at hc
    rcases h c (by omega) (by omega) (by omega) (by omega) with z | z
    · omega
    · exact z)
  have e43 : σ' 43 = σ 43 := (h 43 (by decide) (by decide) (by decide) (by decide)).resolve_left (by decide)
  have e44 : σ' 44 = σ 44 := (h 44 (by decide) (by decide) (by decide) (by decide)).resolve_left (by decide)
  have ea : av σ' 43 = av σ 43 := by unfold av; rw [e43]
  have eg : agm σ' = agm σ := by unfold agm; rw [e, ea]
  have et : tgm σ' = tgm σ := by unfold tgm; rw [e44]
  obtain ⟨p1, p2, p3, p4, p5⟩ := hp
  unfold PLM AV
  rw [e, eg, et, ea, e43, e44, h29 21 (by decide) (by decide)]
  exact ⟨p1, p2, p3, p4, p5⟩
/-- the i-th of p's -/
def DayA (o a : Nat → Nat) (n p : Nat) (i r : Int32) : Prop :=
  (∃ l, l < n ∧ a (o l) = p ∧ (cnp o a p l : Int) = i.toInt ∧ r = nI (o l)) ∨ ((∀ l, l < n → a (o l) = p → (cnp o a p l : Int) ≠ i.toInt) ∧ r = -1)
theorem DayA_uniq {o a : Nat → Nat} {n p : Nat} {i r r' : Int32} (h : DayA o a n p i r) (h' : DayA o a n p i r') : r = r' := by
  rcases h with ⟨l, h1, h2, h3, h4⟩ | ⟨h1, h2⟩ <;> rcases h' with ⟨m, g1, g2, g3, g4⟩ | ⟨g1, g2⟩
  · have : l = m := by
      rcases Nat.lt_trichotomy l m with z | z | z
      · have := cnp_hit z h2; omega
      · exact z
      · have := cnp_hit z g2; omega
    rw [h4, g4, this]
  · exact absurd h3 (g1 l h1 h2)
  · exact absurd g3 (h1 m g1 g2)
  · rw [h2, g2]
/-- how long p waits: the sum, the time since when -/
def wtn (d : Dt) (o a : Nat → Nat) (p : Nat) : Nat → Int × Int
  | 0 => (0, d 3 p)
  | k + 1 => if a (o k) = p then ((wtn d o a p k).1 + (d 11 (o k) - (wtn d o a p k).2 - ttn d o a p k), d 12 (o k)) else wtn d o a p k
theorem wtn_rng {d : Dt} (hd : Vd d) {o a : Nat → Nat} {p n : Nat} (hp : p < 4) (ho : ∀ k, k < n → o k < 7) : ∀ k, k ≤ n → (-3180 * (k : Int) ≤ (wtn d o a p k).1 ∧ (wtn d o a p k).1 ≤ 2880 * k) ∧ 0 ≤ (wtn d o a p k).2 ∧ (wtn d o a p k).2 ≤ 2880 := by
  intro k
  induction k with
  | zero =>
    intro _
    have := hd.ppl hp
    show (-3180 * ((0 : Nat) : Int) ≤ 0 ∧ 0 ≤ 2880 * ((0 : Nat) : Int)) ∧ 0 ≤ d 3 p ∧ d 3 p ≤ 2880
    omega
  | succ k ih =>
    intro hk
    have h1 := ih (by omega)
    have h2 := wat_rng hd (a := a) hp ho k (by omega)
    have h3 := hd.job (ho k (by omega))
    have h4 := hd.way (k := (wat d o a p k * 5 + d 13 (o k)).toNat) (by omega)
    have h5 : (ttn d o a p k : Int) = d 18 (wat d o a p k * 5 + d 13 (o k)).toNat := by unfold ttn; omega
    have hg := hd.job (ho k (by omega))
    unfold wtn
    split
    · show (-3180 * ((k + 1 : Nat) : Int) ≤ (wtn d o a p k).1 + (d 11 (o k) - (wtn d o a p k).2 - ttn d o a p k) ∧ (wtn d o a p k).1 + (d 11 (o k) - (wtn d o a p k).2 - ttn d o a p k) ≤ 2880 * ((k + 1 : Nat) : Int)) ∧ 0 ≤ d 12 (o k) ∧ d 12 (o k) ≤ 2880
      omega
    · omega
theorem wtn_skip {d : Dt} {o a : Nat → Nat} {p k n : Nat} (hk : k ≤ n) (h : ∀ i, k ≤ i → i < n → a (o i) ≠ p) : wtn d o a p n = wtn d o a p k := by
  induction n with
  | zero => have : k = 0 := by omega
            subst this; rfl
  | succ n ih =>
    by_cases e : k = n + 1
    · subst e; rfl
    · show (if a (o n) = p then _ else wtn d o a p n) = _
      rw [if_neg (h n (by omega) (by omega)), ih (by omega) (fun i a b => h i a (by omega))]

