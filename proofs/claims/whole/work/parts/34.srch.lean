/-! the search through all ways, in the order of their digits -/
def llt (n : Nat) (t u : Nat → Nat) : Prop := ∃ j, j < n ∧ (∀ i, i < j → t i = u i) ∧ t j < u j
def leq (n : Nat) (t u : Nat → Nat) : Prop := ∀ j, j < n → t j = u j
/-- the ways that are compared -/
def dgt (n P : Nat) (t : Nat → Nat) : Prop := ∀ j, j < n → t j ≤ P
theorem llt_total {n : Nat} (t u : Nat → Nat) : llt n t u ∨ leq n t u ∨ llt n u t := by
  induction n with
  | zero => exact Or.inr (Or.inl (fun j hj => absurd hj (Nat.not_lt_zero j)))
  | succ n ih =>
    rcases ih with ⟨j, hj, h1, h2⟩ | h | ⟨j, hj, h1, h2⟩
    · exact Or.inl ⟨j, by omega, h1, h2⟩
    · rcases Nat.lt_trichotomy (t n) (u n) with z | z | z
      · exact Or.inl ⟨n, by omega, h, z⟩
      · refine Or.inr (Or.inl (fun j hj => ?_))
        by_cases e : j = n
        · subst e; exact z
        · exact h j (by omega)
      · exact Or.inr (Or.inr ⟨n, by omega, fun i hi => (h i hi).symm, z⟩)
    · exact Or.inr (Or.inr ⟨j, by omega, h1, h2⟩)
/-- the step from t to u: the last digit that may grow grows, those behind it fall to 0 -/
def stp (n P : Nat) (t u : Nat → Nat) : Prop := ∃ j, j < n ∧ t j < P ∧ u j = t j + 1 ∧ (∀ i, i < j → u i = t i) ∧ ∀ i, j < i → i < n → t i = P ∧ u i = 0
theorem stp_llt {n P : Nat} {t u v : Nat → Nat} (h : stp n P t u) (hv : dgt n P v) (hl : llt n v u) : llt n v t ∨ leq n v t := by
  obtain ⟨j, hj, h1, h2, h3, h4⟩ := h
  obtain ⟨k, hk, g1, g2⟩ := hl
  rcases Nat.lt_trichotomy k j with z | z | z
  · exact Or.inl ⟨k, hk, fun i hi => by rw [g1 i hi, h3 i (by omega)], by rw [h3 k z] at g2; exact g2⟩
  · subst z
    rw [h2] at g2
    rcases Nat.lt_or_ge (v k) (t k) with y | y
    · exact Or.inl ⟨k, hk, fun i hi => by rw [g1 i hi, h3 i hi], y⟩
    · have e : v k = t k := by omega
      rcases llt_total (n := n) v t with w | w | ⟨m, hm, w1, w2⟩
      · exact Or.inl w
      · exact Or.inr w
      · rcases Nat.lt_trichotomy m k with q | q | q
        · rw [g1 m q, h3 m q] at w2; omega
        · subst q; omega
        · have := (h4 m q hm).1
          have := hv m hm
          omega
  · have := (h4 k z hk).2
    omega
theorem llt_leq {n : Nat} {v t u : Nat → Nat} (h : leq n v t) (hl : llt n t u) : llt n v u := by
  obtain ⟨j, hj, h1, h2⟩ := hl
  exact ⟨j, hj, fun i hi => by rw [h i (by omega), h1 i hi], by rw [h j hj]; exact h2⟩
theorem stp_self {n P : Nat} {t u : Nat → Nat} (h : stp n P t u) : llt n t u := by
  obtain ⟨j, hj, h1, h2, h3, h4⟩ := h
  exact ⟨j, hj, fun i hi => (h3 i hi).symm, by omega⟩
theorem llt_trans {n : Nat} {a b c : Nat → Nat} (h1 : llt n a b) (h2 : llt n b c) : llt n a c := by
  obtain ⟨j, hj, a1, a2⟩ := h1
  obtain ⟨k, hk, b1, b2⟩ := h2
  rcases Nat.lt_trichotomy j k with z | z | z
  · exact ⟨j, hj, fun i hi => by rw [a1 i hi, b1 i (by omega)], by rw [← b1 j z]; exact a2⟩
  · subst z; exact ⟨j, hj, fun i hi => by rw [a1 i hi, b1 i hi], by omega⟩
  · exact ⟨k, hk, fun i hi => by rw [a1 i (by omega), b1 i hi], by rw [a1 k z]; exact b2⟩
theorem llt_last {n P : Nat} {t v : Nat → Nat} (h : ∀ j, j < n → t j = P) (hv : dgt n P v) : llt n v t ∨ leq n v t := by
  rcases llt_total (n := n) v t with w | w | ⟨m, hm, _, w2⟩
  · exact Or.inl w
  · exact Or.inr w
  · have := h m hm
    have := hv m hm
    omega
theorem llt_zero {n : Nat} {t v : Nat → Nat} (h : ∀ j, j < n → t j = 0) : ¬ llt n v t := by
  rintro ⟨j, hj, _, h2⟩
  have := h j hj
  omega
theorem nb_mono {P : Nat} (hP : P ≤ 4) {t u : Nat → Nat} {j : Nat} (hu : u j ≤ P) (h : t j < u j) : nb P t j < nb P u j := by
  unfold nb
  rw [if_pos (show t j < P by omega)]
  split <;> omega
theorem dig_lex {n : Nat} (hn : n ≤ 7) {a b : Nat → Nat} (ha : ∀ j, j < n → a j ≤ 4) (hb : ∀ j, j < n → b j ≤ 4) (h : llt n a b) : dp_dig a (2 ^ n - 1) n < dp_dig b (2 ^ n - 1) n := by
  obtain ⟨j, hj, h1, h2⟩ := h
  have e : ∀ a : Nat → Nat, dp_dig a (2 ^ n - 1) n = dp_sum (fun j => dp_pad a n j * 8 ^ (6 - j)) 7 := fun a => by
    unfold dp_dig
    rw [dp_sb_full, dp_sum_pad a (fun j => 8 ^ (6 - j)) n 7 hn]
  have ca : ∀ i, dp_pad a n i ≤ 4 := fun i => by
    unfold dp_pad
    split
    · exact ha i (by assumption)
    · omega
  have cb : ∀ i, dp_pad b n i ≤ 4 := fun i => by
    unfold dp_pad
    split
    · exact hb i (by assumption)
    · omega
  have g1 : ∀ i, i < j → dp_pad a n i = dp_pad b n i := fun i hi => by
    unfold dp_pad
    rw [if_pos (by omega), if_pos (by omega), h1 i hi]
  have g2 : dp_pad a n j < dp_pad b n j := by
    unfold dp_pad
    rw [if_pos hj, if_pos hj]; exact h2
  rw [e, e]
  have a0 := ca 0
  have a1 := ca 1
  have a2 := ca 2
  have a3 := ca 3
  have a4 := ca 4
  have a5 := ca 5
  have a6 := ca 6
  have b0 := cb 0
  have b1 := cb 1
  have b2 := cb 2
  have b3 := cb 3
  have b4 := cb 4
  have b5 := cb 5
  have b6 := cb 6
  simp only [dp_sum, Nat.reduceSub, Nat.reducePow]
  rcases (by omega : j = 0 ∨ j = 1 ∨ j = 2 ∨ j = 3 ∨ j = 4 ∨ j = 5 ∨ j = 6) with rfl | rfl | rfl | rfl | rfl | rfl | rfl
  · omega
  · have := g1 0 (by omega); omega
  · have := g1 0 (by omega); have := g1 1 (by omega); omega
  · have := g1 0 (by omega); have := g1 1 (by omega); have := g1 2 (by omega); omega
  · have := g1 0 (by omega); have := g1 1 (by omega); have := g1 2 (by omega); have := g1 3 (by omega); omega
  · have := g1 0 (by omega); have := g1 1 (by omega); have := g1 2 (by omega); have := g1 3 (by omega); have := g1 4 (by omega); omega
  · have := g1 0 (by omega); have := g1 1 (by omega); have := g1 2 (by omega); have := g1 3 (by omega); have := g1 4 (by omega); have := g1 5 (by omega); omega
theorem nb_le {P : Nat} (hP : P ≤ 4) (t : Nat → Nat) (j : Nat) : nb P t j ≤ 4 := by
  unfold nb; split <;> omega
theorem nb_llt {n P : Nat} (hP : P ≤ 4) {t u : Nat → Nat} (hu : dgt n P u) (h : llt n t u) : llt n (nb P t) (nb P u) := by
  obtain ⟨j, hj, h1, h2⟩ := h
  exact ⟨j, hj, fun i hi => by unfold nb; rw [h1 i hi], nb_mono hP (hu j hj) h2⟩
theorem nb_of {n P : Nat} (hP : P ≤ 4) (t : Nat → Nat) {q : Nat} (hq : q < P) : dp_of (nb P t) q (2 ^ n - 1) n = dp_mk (fun j => t j == q) n := by
  apply Nat.eq_of_testBit_eq
  intro j
  rw [dp_of_bit, dp_mk_bit, Nat.testBit_two_pow_sub_one]
  by_cases hj : j < n
  · simp only [hj, decide_true, Bool.true_and]
    unfold nb
    split
    · rfl
    · rw [Bool.eq_iff_iff]; simp only [beq_iff_eq]; omega
  · simp [hj]
theorem nb_none {n P : Nat} (hP : P ≤ 4) (t : Nat → Nat) : dp_none (nb P t) (2 ^ n - 1) n + cnt (fun j => decide (t j < P)) n = n := by
  unfold dp_none
  rw [dp_sb_full]
  induction n with
  | zero => rfl
  | succ n ih =>
    unfold dp_sum cnt
    have : (if nb P t n = 4 then 1 else 0) + (if decide (t n < P) = true then 1 else 0) = 1 := by
      unfold nb
      by_cases h : t n < P
      · simp [h]; omega
      · simp [h]
    omega
theorem tv_osum {tr : Nat → Nat → Option Nat} {n P : Nat} (hP : P ≤ 4) (t : Nat → Nat) : ∀ p, p ≤ P → ∀ v, osum (fun q => tr q (dp_mk (fun j => t j == q) n)) p = some v → dp_tv tr (nb P t) (2 ^ n - 1) n p = v := by
  intro p
  induction p with
  | zero => intro _ v h; unfold osum at h; injection h with h
  | succ p ih =>
    intro hp v h
    rw [osum] at h
    cases hx : osum (fun q => tr q (dp_mk (fun j => t j == q) n)) p with
    | none => rw [hx] at h; cases h
    | some x =>
      rw [hx] at h
      cases hy : tr p (dp_mk (fun j => t j == p) n) with
      | none => simp only [hy] at h; cases h
      | some y =>
        simp only [hy] at h
        injection h with h
        show dp_tv tr (nb P t) (2 ^ n - 1) n p + (tr p (dp_of (nb P t) p (2 ^ n - 1) n)).getD 0 = v
        rw [ih (by omega) x hx, nb_of hP t (by omega), hy, ← h]; rfl
theorem nb_ok {tr : Nat → Nat → Option Nat} {n P : Nat} (hP : P ≤ 4) (t : Nat → Nat) : dp_ok tr (nb P t) (2 ^ n - 1) n P ↔ ∃ v, osum (fun q => tr q (dp_mk (fun j => t j == q) n)) P = some v := by
  rw [osum_iff]
  constructor
  · intro h q hq
    have := h.2 q hq
    rw [nb_of hP t hq] at this
    exact this
  · intro h
    refine ⟨fun j _ _ => ?_, fun q hq => ?_⟩
    · unfold nb
      split
      · exact Or.inl (by assumption)
      · exact Or.inr rfl
    · rw [nb_of hP t hq]; exact h q hq
/-- the best of the ways in s -/
def bst (tr : Nat → Nat → Option Nat) (n P : Nat) (g : Nat → Nat) (s : (Nat → Nat) → Prop) : Prop :=
  dgt n P g ∧ s g ∧ dp_ok tr (nb P g) (2 ^ n - 1) n P ∧ ∀ v, dgt n P v → s v → dp_ok tr (nb P v) (2 ^ n - 1) n P → dp_cost tr (nb P g) (2 ^ n - 1) n P ≤ dp_cost tr (nb P v) (2 ^ n - 1) n P
theorem cost_lt {tr : Nat → Nat → Option Nat} {n P : Nat} (hn : n ≤ 7) (hP : P ≤ 4) {g t : Nat → Nat} {v w : Nat} (hv : osum (fun q => tr q (dp_mk (fun j => g j == q) n)) P = some v) (hw : osum (fun q => tr q (dp_mk (fun j => t j == q) n)) P = some w) (bv : v ≤ 8400) (bw : w ≤ 8400)
    (h : cnt (fun j => decide (g j < P)) n < cnt (fun j => decide (t j < P)) n ∨ (cnt (fun j => decide (g j < P)) n = cnt (fun j => decide (t j < P)) n ∧ w < v)) : dp_cost tr (nb P t) (2 ^ n - 1) n P < dp_cost tr (nb P g) (2 ^ n - 1) n P := by
  have d1 := dp_dig_lt (a := nb P g) hn (fun j _ => nb_le hP g j)
  have d2 := dp_dig_lt (a := nb P t) hn (fun j _ => nb_le hP t j)
  have n1 := nb_none (n := n) hP g
  have n2 := nb_none (n := n) hP t
  unfold dp_cost
  rw [tv_osum hP g P (Nat.le_refl P) v hv, tv_osum hP t P (Nat.le_refl P) w hw]
  rcases h with h | h
  · omega
  · have : dp_none (nb P t) (2 ^ n - 1) n = dp_none (nb P g) (2 ^ n - 1) n := by omega
    rw [this]
    omega
theorem cost_le {tr : Nat → Nat → Option Nat} {n P : Nat} (hn : n ≤ 7) (hP : P ≤ 4) {g t : Nat → Nat} {v w : Nat} (hv : osum (fun q => tr q (dp_mk (fun j => g j == q) n)) P = some v) (hw : osum (fun q => tr q (dp_mk (fun j => t j == q) n)) P = some w) (ht : dgt n P t) (hl : llt n g t)
    (h : cnt (fun j => decide (g j < P)) n = cnt (fun j => decide (t j < P)) n ∧ v ≤ w) : dp_cost tr (nb P g) (2 ^ n - 1) n P ≤ dp_cost tr (nb P t) (2 ^ n - 1) n P := by
  have d1 := dig_lex hn (fun j _ => nb_le hP g j) (fun j _ => nb_le hP t j) (nb_llt hP ht hl)
  have n1 := nb_none (n := n) hP g
  have n2 := nb_none (n := n) hP t
  unfold dp_cost
  rw [tv_osum hP g P (Nat.le_refl P) v hv, tv_osum hP t P (Nat.le_refl P) w hw]
  have : dp_none (nb P t) (2 ^ n - 1) n = dp_none (nb P g) (2 ^ n - 1) n := by omega
  rw [this]
  omega

