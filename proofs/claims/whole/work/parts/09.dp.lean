/-! The pure theory of the division: the least cost over all ways to give a set of jobs to the people below p, or to nobody (4). -/
def dp_mk (f : Nat → Bool) : Nat → Nat
  | 0 => 0
  | n + 1 => dp_mk f n + (if f n then 2 ^ n else 0)
theorem dp_mk_lt (f : Nat → Bool) (n : Nat) : dp_mk f n < 2 ^ n := by
  induction n with
  | zero => simp [dp_mk]
  | succ n ih =>
    have e : 2 ^ (n + 1) = 2 ^ n + 2 ^ n := by rw [Nat.pow_succ]; omega
    unfold dp_mk
    split <;> omega
theorem dp_mk_bit (f : Nat → Bool) (n j : Nat) : (dp_mk f n).testBit j = (decide (j < n) && f j) := by
  induction n with
  | zero => simp [dp_mk]
  | succ n ih =>
    have hlt := dp_mk_lt f n
    unfold dp_mk
    by_cases hf : f n = true
    · rw [if_pos hf, Nat.add_comm]
      rcases Nat.lt_trichotomy j n with h | h | h
      · rw [Nat.testBit_two_pow_add_gt h, ih]
        simp [h, Nat.lt_succ_of_lt h]
      · subst h
        rw [Nat.testBit_two_pow_add_eq, Nat.testBit_lt_two_pow hlt]
        simp [hf]
      · have hb : 2 ^ n + dp_mk f n < 2 ^ j := by
          have e : 2 ^ (n + 1) = 2 ^ n + 2 ^ n := by rw [Nat.pow_succ]; omega
          have := Nat.pow_le_pow_right (n := 2) (by decide) (show n + 1 ≤ j from h)
          omega
        rw [Nat.testBit_lt_two_pow hb]
        have : ¬ j < n + 1 := by omega
        simp [this]
    · rw [if_neg hf, Nat.add_zero, ih]
      by_cases h : j = n
      · subst h
        have : f j = false := by simpa using hf
        simp [this]
      · have : (j < n + 1) ↔ (j < n) := by omega
        simp [this]
/-- the sum of g over the bits of S below n -/
def dp_sb (g : Nat → Nat) (S : Nat) : Nat → Nat
  | 0 => 0
  | n + 1 => dp_sb g S n + (if S.testBit n then g n else 0)
theorem dp_sb_split {g : Nat → Nat} {S T : Nat} (n : Nat) (h : ∀ j, T.testBit j = true → S.testBit j = true) : dp_sb g S n = dp_sb g T n + dp_sb g (S ^^^ T) n := by
  induction n with
  | zero => rfl
  | succ n ih =>
    have hn := h n
    unfold dp_sb
    rw [ih, Nat.testBit_xor]
    cases hT : T.testBit n <;> cases hS : S.testBit n <;> simp [hT, hS] at hn ⊢ <;> omega
theorem dp_sb_congr {g g' : Nat → Nat} {S : Nat} (n : Nat) (h : ∀ j, j < n → S.testBit j = true → g j = g' j) : dp_sb g S n = dp_sb g' S n := by
  induction n with
  | zero => rfl
  | succ n ih =>
    unfold dp_sb
    rw [ih (fun j hj => h j (Nat.lt_succ_of_lt hj))]
    cases hS : S.testBit n
    · rfl
    · simp [h n (Nat.lt_succ_self n) hS]
theorem dp_sb_zero {g : Nat → Nat} {S : Nat} (n : Nat) (h : ∀ j, j < n → S.testBit j = true → g j = 0) : dp_sb g S n = 0 := by
  induction n with
  | zero => rfl
  | succ n ih =>
    unfold dp_sb
    rw [ih (fun j hj => h j (Nat.lt_succ_of_lt hj))]
    cases hS : S.testBit n
    · rfl
    · simp [h n (Nat.lt_succ_self n) hS]
/-- what of S is given to q -/
def dp_of (a : Nat → Nat) (q S n : Nat) : Nat := dp_mk (fun j => S.testBit j && a j == q) n
theorem dp_of_bit (a : Nat → Nat) (q S n j : Nat) : (dp_of a q S n).testBit j = (decide (j < n) && (S.testBit j && a j == q)) := dp_mk_bit _ n j
theorem dp_of_congr {a a' : Nat → Nat} {q S S' n : Nat} (h : ∀ j, j < n → (S.testBit j && a j == q) = (S'.testBit j && a' j == q)) : dp_of a q S n = dp_of a' q S' n := by
  unfold dp_of
  induction n with
  | zero => rfl
  | succ n ih =>
    unfold dp_mk
    rw [ih (fun j hj => h j (Nat.lt_succ_of_lt hj)), h n (Nat.lt_succ_self n)]
theorem dp_of_zero {a : Nat → Nat} {q S n : Nat} (h : ∀ j, j < n → S.testBit j = true → a j ≠ q) : dp_of a q S n = 0 := by
  have e : dp_of a q S n = dp_of a q 0 n := dp_of_congr (fun j hj => by
    rw [Nat.zero_testBit, Bool.false_and]
    cases hS : S.testBit j
    · rfl
    · have := h j hj hS
      simp [this])
  rw [e]
  unfold dp_of
  clear e h
  induction n with
  | zero => rfl
  | succ n ih => unfold dp_mk; rw [ih]; simp
/-- a gives S to people below p, or to nobody, and all may do theirs: tr says the travel of somebody who does just a set -/
def dp_ok (tr : Nat → Nat → Option Nat) (a : Nat → Nat) (S n p : Nat) : Prop :=
  (∀ j, j < n → S.testBit j = true → a j < p ∨ a j = 4) ∧ ∀ q, q < p → ∃ t, tr q (dp_of a q S n) = some t
def dp_tv (tr : Nat → Nat → Option Nat) (a : Nat → Nat) (S n : Nat) : Nat → Nat
  | 0 => 0
  | p + 1 => dp_tv tr a S n p + (tr p (dp_of a p S n)).getD 0
def dp_none (a : Nat → Nat) (S n : Nat) : Nat := dp_sb (fun j => if a j = 4 then 1 else 0) S n
def dp_dig (a : Nat → Nat) (S n : Nat) : Nat := dp_sb (fun j => a j * 8 ^ (6 - j)) S n
def dp_cost (tr : Nat → Nat → Option Nat) (a : Nat → Nat) (S n p : Nat) : Nat :=
  dp_none a S n * 1099511627776 + dp_tv tr a S n p * 2097152 + dp_dig a S n
/-- v is the least cost -/
def dp_least (tr : Nat → Nat → Option Nat) (S n p v : Nat) : Prop :=
  (∃ a, dp_ok tr a S n p ∧ dp_cost tr a S n p = v) ∧ ∀ a, dp_ok tr a S n p → v ≤ dp_cost tr a S n p
theorem dp_tv_congr {tr : Nat → Nat → Option Nat} {a a' : Nat → Nat} {S S' n : Nat} (p : Nat) (h : ∀ q, q < p → dp_of a q S n = dp_of a' q S' n) : dp_tv tr a S n p = dp_tv tr a' S' n p := by
  induction p with
  | zero => rfl
  | succ p ih =>
    unfold dp_tv
    rw [ih (fun q hq => h q (Nat.lt_succ_of_lt hq)), h p (Nat.lt_succ_self p)]
theorem dp_base (tr : Nat → Nat → Option Nat) (S n : Nat) : dp_least tr S n 0 (dp_sb (fun _ => 1) S n * 1099511627776 + dp_sb (fun j => 4 * 8 ^ (6 - j)) S n) := by
  have key : ∀ a, dp_ok tr a S n 0 → dp_cost tr a S n 0 = dp_sb (fun _ => 1) S n * 1099511627776 + dp_sb (fun j => 4 * 8 ^ (6 - j)) S n := by
    intro a h
    have h4 : ∀ j, j < n → S.testBit j = true → a j = 4 := fun j hj hS => (h.1 j hj hS).elim (fun z => absurd z (Nat.not_lt_zero _)) id
    unfold dp_cost dp_none dp_dig dp_tv
    rw [dp_sb_congr (g' := fun _ => 1) n (fun j hj hS => by simp [h4 j hj hS]), dp_sb_congr (g := fun j => a j * 8 ^ (6 - j)) (g' := fun j => 4 * 8 ^ (6 - j)) n (fun j hj hS => by simp [h4 j hj hS])]
    omega
  refine ⟨⟨fun _ => 4, ⟨fun _ _ _ => Or.inr rfl, fun q hq => absurd hq (Nat.not_lt_zero _)⟩, key _ ⟨fun _ _ _ => Or.inr rfl, fun q hq => absurd hq (Nat.not_lt_zero _)⟩⟩, fun a h => Nat.le_of_eq (key a h).symm⟩
/-- one way, cut: what p does, and the rest among the people below -/
theorem dp_cut {tr : Nat → Nat → Option Nat} {a b : Nat → Nat} {S T n p t : Nat} (hp : p < 4) (hT : ∀ j, T.testBit j = true → S.testBit j = true) (htr : tr p T = some t)
    (h1 : ∀ j, j < n → T.testBit j = true → a j = p) (h2 : ∀ j, j < n → S.testBit j = true → T.testBit j = false → a j = b j ∧ b j ≠ p) (hTn : T < 2 ^ n) :
    (dp_ok tr a S n (p + 1) ↔ dp_ok tr b (S ^^^ T) n p) ∧ dp_cost tr a S n (p + 1) = t * 2097152 + dp_sb (fun j => p * 8 ^ (6 - j)) T n + dp_cost tr b (S ^^^ T) n p := by
  have hx : ∀ j, (S ^^^ T).testBit j = true → S.testBit j = true ∧ T.testBit j = false := by
    intro j hj
    rw [Nat.testBit_xor] at hj
    have := hT j
    cases hS : S.testBit j <;> cases hTj : T.testBit j <;> simp [hS, hTj] at hj this ⊢
  have hx2 : ∀ j, S.testBit j = true → T.testBit j = false → (S ^^^ T).testBit j = true := by
    intro j h3 h4
    rw [Nat.testBit_xor, h3, h4]; rfl
  have hofp : dp_of a p S n = T := by
    apply Nat.eq_of_testBit_eq
    intro j
    rw [dp_of_bit]
    by_cases hj : j < n
    · cases hTj : T.testBit j
      · cases hS : S.testBit j
        · simp
        · have := h2 j hj hS hTj
          have hne : a j ≠ p := by rw [this.1]; exact this.2
          simp [hne]
      · simp [hj, hT j hTj, h1 j hj hTj]
    · have : T.testBit j = false := Nat.testBit_lt_two_pow (Nat.lt_of_lt_of_le hTn (Nat.pow_le_pow_right (by decide) (by omega)))
      simp [hj, this]
  have hofq : ∀ q, q < p → dp_of a q S n = dp_of b q (S ^^^ T) n := by
    intro q hq
    apply dp_of_congr
    intro j hj
    cases hTj : T.testBit j
    · cases hS : S.testBit j
      · rw [Nat.testBit_xor, hS, hTj]; rfl
      · rw [hx2 j hS hTj, (h2 j hj hS hTj).1]
    · have e1 : (S ^^^ T).testBit j = false := by rw [Nat.testBit_xor, hT j hTj, hTj]; rfl
      have hne : ¬ a j = q := by rw [h1 j hj hTj]; omega
      rw [e1]
      simp [hne]
  constructor
  · constructor
    · rintro ⟨g1, g2⟩
      refine ⟨fun j hj hS => ?_, fun q hq => ?_⟩
      · obtain ⟨s1, s2⟩ := hx j hS
        have e := h2 j hj s1 s2
        rcases g1 j hj s1 with z | z
        · rw [e.1] at z; have := e.2; omega
        · rw [e.1] at z; exact Or.inr z
      · rw [← hofq q hq]; exact g2 q (Nat.lt_succ_of_lt hq)
    · rintro ⟨g1, g2⟩
      refine ⟨fun j hj hS => ?_, fun q hq => ?_⟩
      · cases hTj : T.testBit j
        · rw [(h2 j hj hS hTj).1]
          rcases g1 j hj (hx2 j hS hTj) with z | z
          · exact Or.inl (Nat.lt_succ_of_lt z)
          · exact Or.inr z
        · rw [h1 j hj hTj]; exact Or.inl (Nat.lt_succ_self p)
      · rcases Nat.lt_or_ge q p with z | z
        · rw [hofq q z]; exact g2 q z
        · have : q = p := by omega
          subst this
          rw [hofp]; exact ⟨t, htr⟩
  · have e1 : dp_none a S n = dp_none b (S ^^^ T) n := by
      unfold dp_none
      rw [dp_sb_split n hT, dp_sb_zero (S := T) n (fun j hj hTj => by rw [h1 j hj hTj]; rw [if_neg (by omega)]), Nat.zero_add]
      exact dp_sb_congr n (fun j hj hS => by rw [(h2 j hj (hx j hS).1 (hx j hS).2).1])
    have e2 : dp_dig a S n = dp_sb (fun j => p * 8 ^ (6 - j)) T n + dp_dig b (S ^^^ T) n := by
      unfold dp_dig
      rw [dp_sb_split n hT]
      congr 1
      · exact dp_sb_congr n (fun j hj hTj => by rw [h1 j hj hTj])
      · exact dp_sb_congr n (fun j hj hS => by rw [(h2 j hj (hx j hS).1 (hx j hS).2).1])
    have e3 : dp_tv tr a S n (p + 1) = dp_tv tr b (S ^^^ T) n p + t := by
      show dp_tv tr a S n p + (tr p (dp_of a p S n)).getD 0 = _
      rw [hofp, htr, dp_tv_congr p hofq]; rfl
    unfold dp_cost
    rw [e1, e2, e3]
    omega
theorem dp_step {tr : Nat → Nat → Option Nat} {n p S v : Nat} {c : Nat → Nat} (hp : p < 4) (hS : S < 2 ^ n) (h0 : tr p 0 = some 0) (hc : ∀ S', S' < 2 ^ n → dp_least tr S' n p (c S'))
    (hv : v = c S ∨ ∃ T t, (∀ j, T.testBit j = true → S.testBit j = true) ∧ tr p T = some t ∧ v = t * 2097152 + dp_sb (fun j => p * 8 ^ (6 - j)) T n + c (S ^^^ T))
    (hle : v ≤ c S) (hlt : ∀ T t, T ≠ 0 → (∀ j, T.testBit j = true → S.testBit j = true) → tr p T = some t → v ≤ t * 2097152 + dp_sb (fun j => p * 8 ^ (6 - j)) T n + c (S ^^^ T)) :
    dp_least tr S n (p + 1) v := by
  have sub_lt : ∀ T, (∀ j, T.testBit j = true → S.testBit j = true) → T < 2 ^ n := by
    intro T hT
    rcases Nat.lt_or_ge T (2 ^ n) with h | h
    · exact h
    · obtain ⟨i, hi, hb⟩ := Nat.exists_ge_and_testBit_of_ge_two_pow h
      have := hT i hb
      rw [Nat.testBit_lt_two_pow (Nat.lt_of_lt_of_le hS (Nat.pow_le_pow_right (by decide) hi))] at this
      cases this
  have xor_lt : ∀ T, (∀ j, T.testBit j = true → S.testBit j = true) → S ^^^ T < 2 ^ n := fun T hT => Nat.xor_lt_two_pow hS (sub_lt T hT)
  have zsub : ∀ j, (0 : Nat).testBit j = true → S.testBit j = true := fun j h => by rw [Nat.zero_testBit] at h; cases h
  -- every way of S' among p stays one among p + 1
  have lift : ∀ T t, (∀ j, T.testBit j = true → S.testBit j = true) → tr p T = some t → ∃ a, dp_ok tr a S n (p + 1) ∧ dp_cost tr a S n (p + 1) = t * 2097152 + dp_sb (fun j => p * 8 ^ (6 - j)) T n + c (S ^^^ T) := by
    intro T t hT ht
    obtain ⟨⟨b, hb, hcb⟩, -⟩ := hc (S ^^^ T) (xor_lt T hT)
    have cut := dp_cut (tr := tr) (a := fun j => if T.testBit j then p else b j) (b := b) (S := S) (T := T) (n := n) (p := p) (t := t) hp hT ht (fun j _ h => by simp [h]) (fun j hj hSj hTj => by
      refine ⟨by simp [hTj], ?_⟩
      have hx : (S ^^^ T).testBit j = true := by rw [Nat.testBit_xor, hSj, hTj]; rfl
      rcases hb.1 j hj hx with z | z <;> omega) (sub_lt T hT)
    exact ⟨_, cut.1.mpr hb, by rw [cut.2, hcb]⟩
  constructor
  · rcases hv with h | ⟨T, t, hT, ht, h⟩
    · obtain ⟨a, h1, h2⟩ := lift 0 0 zsub h0
      refine ⟨a, h1, ?_⟩
      rw [h2, Nat.xor_zero, dp_sb_zero n (fun j _ hz => by rw [Nat.zero_testBit] at hz; cases hz), h]
      omega
    · obtain ⟨a, h1, h2⟩ := lift T t hT ht
      exact ⟨a, h1, by rw [h2, h]⟩
  · intro a ha
    have hT : ∀ j, (dp_of a p S n).testBit j = true → S.testBit j = true := by
      intro j hj
      rw [dp_of_bit] at hj
      simp only [Bool.and_eq_true] at hj
      exact hj.2.1
    obtain ⟨t, ht⟩ := ha.2 p (Nat.lt_succ_self p)
    have cut := dp_cut (tr := tr) (a := a) (b := a) (S := S) (T := dp_of a p S n) (n := n) (p := p) (t := t) hp hT ht (fun j _ h => by
      rw [dp_of_bit] at h
      simp only [Bool.and_eq_true, beq_iff_eq] at h
      exact h.2.2) (fun j hj hSj hTj => by
      refine ⟨rfl, fun e => ?_⟩
      rw [dp_of_bit] at hTj
      simp [hj, hSj, e] at hTj) (sub_lt _ hT)
    have hb := cut.1.mp ha
    have hl := (hc _ (xor_lt _ hT)).2 a hb
    rw [cut.2]
    by_cases hz : dp_of a p S n = 0
    · rw [hz] at hl ht ⊢
      rw [Nat.xor_zero] at hl ⊢
      omega
    · have := hlt _ t hz hT ht
      omega
/-- a person who is barred does nothing -/
theorem dp_skip {tr : Nat → Nat → Option Nat} {n p S v : Nat} (hp : p < 4) (h0 : tr p 0 = some 0) (hb : ∀ T, T ≠ 0 → tr p T = none) (hS : S < 2 ^ n) (c : Nat → Nat) (hc : ∀ S', S' < 2 ^ n → dp_least tr S' n p (c S')) (hv : v = c S) : dp_least tr S n (p + 1) v :=
  dp_step hp hS h0 hc (Or.inl hv) (Nat.le_of_eq hv) (fun T t hz _ ht => by rw [hb T hz] at ht; cases ht)
/-- the parts of S below x: the greatest is (x - 1) && S -/
theorem dp_next (x : Nat) : ∀ (S T : Nat), 0 < x → (∀ j, x.testBit j = true → S.testBit j = true) → (∀ j, T.testBit j = true → S.testBit j = true) → T < x → T ≤ (x - 1) &&& S := by
  induction x using Nat.strongRecOn with
  | ind x ih =>
    intro S T h0 hx hT hlt
    have hx2 : ∀ j, (x / 2).testBit j = true → (S / 2).testBit j = true := fun j h => by
      rw [← Nat.testBit_succ] at h ⊢; exact hx _ h
    have hT2 : ∀ j, (T / 2).testBit j = true → (S / 2).testBit j = true := fun j h => by
      rw [← Nat.testBit_succ] at h ⊢; exact hT _ h
    have hd : ((x - 1) &&& S) / 2 = (x - 1) / 2 &&& S / 2 := Nat.and_div_two
    rcases Nat.mod_two_eq_zero_or_one x with e | e
    · have h1 : (x - 1) / 2 = x / 2 - 1 := by omega
      have h2 := ih (x / 2) (by omega) (S / 2) (T / 2) (by omega) hx2 hT2 (by omega)
      rw [h1] at hd
      rw [← hd] at h2
      rcases Nat.mod_two_eq_zero_or_one T with eT | eT
      · omega
      · have hS0 : S.testBit 0 = true := hT 0 (by rw [Nat.testBit_zero]; simp [eT])
        rw [Nat.testBit_zero] at hS0
        have hS1 : S % 2 = 1 := by simpa using hS0
        have hm : ((x - 1) &&& S) % 2 = 1 := Nat.and_mod_two_eq_one.mpr ⟨by omega, hS1⟩
        omega
    · have h1 : (x - 1) / 2 = x / 2 := by omega
      have h3 : x / 2 &&& S / 2 = x / 2 := by
        apply Nat.eq_of_testBit_eq
        intro j
        rw [Nat.testBit_and]
        cases hj : (x / 2).testBit j
        · rfl
        · rw [hx2 j hj]; rfl
      rw [h1, h3] at hd
      omega
theorem dp_andsub {x S : Nat} : ∀ j, (x &&& S).testBit j = true → S.testBit j = true := fun j h => by
  rw [Nat.testBit_and] at h
  simp only [Bool.and_eq_true] at h
  exact h.2
/-- the sum of g below n -/
def dp_sum (g : Nat → Nat) : Nat → Nat
  | 0 => 0
  | n + 1 => dp_sum g n + g n
theorem dp_sb_full (g : Nat → Nat) (n : Nat) : dp_sb g (2 ^ n - 1) n = dp_sum g n := by
  have key : ∀ k, k ≤ n → dp_sb g (2 ^ n - 1) k = dp_sum g k := by
    intro k hk
    induction k with
    | zero => rfl
    | succ k ih =>
      unfold dp_sb dp_sum
      rw [ih (by omega), Nat.testBit_two_pow_sub_one, if_pos (by simp; omega)]
  exact key n (Nat.le_refl n)
def dp_pad (a : Nat → Nat) (n : Nat) : Nat → Nat := fun j => if j < n then a j else 0
theorem dp_sum_pad (a : Nat → Nat) (f : Nat → Nat) (n m : Nat) (h : n ≤ m) : dp_sum (fun j => dp_pad a n j * f j) m = dp_sum (fun j => a j * f j) n := by
  induction m with
  | zero =>
    have : n = 0 := by omega
    subst this; rfl
  | succ m ih =>
    rcases Nat.lt_or_ge m n with z | z
    · have e : n = m + 1 := by omega
      subst e
      have : ∀ k, k ≤ m + 1 → dp_sum (fun j => dp_pad a (m + 1) j * f j) k = dp_sum (fun j => a j * f j) k := by
        intro k hk
        induction k with
        | zero => rfl
        | succ k ih2 =>
          unfold dp_sum
          rw [ih2 (by omega), show dp_pad a (m + 1) k = a k from if_pos (by omega)]
      exact this (m + 1) (Nat.le_refl _)
    · show dp_sum (fun j => dp_pad a n j * f j) m + dp_pad a n m * f m = _
      rw [ih z, show dp_pad a n m = 0 from if_neg (by omega)]
      omega
theorem dp_dig7 {b : Nat → Nat} {X : Nat} (hb : ∀ i, b i ≤ 4) : ∀ j, j < 7 → (X * 2097152 + dp_sum (fun j => b j * 8 ^ (6 - j)) 7) / 8 ^ (6 - j) % 8 = b j := by
  intro j hj
  have h0 := hb 0
  have h1 := hb 1
  have h2 := hb 2
  have h3 := hb 3
  have h4 := hb 4
  have h5 := hb 5
  have h6 := hb 6
  simp only [dp_sum, Nat.reduceSub, Nat.reducePow]
  rcases (by omega : j = 0 ∨ j = 1 ∨ j = 2 ∨ j = 3 ∨ j = 4 ∨ j = 5 ∨ j = 6) with rfl | rfl | rfl | rfl | rfl | rfl | rfl <;> simp only [Nat.reduceSub, Nat.reducePow] <;> omega
/-- the digits of a cost -/
theorem dp_digits {a : Nat → Nat} {n X : Nat} (hn : n ≤ 7) (ha : ∀ j, j < n → a j ≤ 4) : ∀ j, j < n → (X * 2097152 + dp_dig a (2 ^ n - 1) n) / 8 ^ (6 - j) % 8 = a j := by
  intro j hj
  have e : dp_dig a (2 ^ n - 1) n = dp_sum (fun j => dp_pad a n j * 8 ^ (6 - j)) 7 := by
    unfold dp_dig
    rw [dp_sb_full, dp_sum_pad a (fun j => 8 ^ (6 - j)) n 7 hn]
  have hb : ∀ i, dp_pad a n i ≤ 4 := fun i => by
    unfold dp_pad
    split
    · exact ha i (by assumption)
    · omega
  rw [e, dp_dig7 hb j (by omega)]
  exact if_pos hj
theorem dp_dig_lt {a : Nat → Nat} {n : Nat} (hn : n ≤ 7) (ha : ∀ j, j < n → a j ≤ 4) : dp_dig a (2 ^ n - 1) n < 2097152 := by
  have e : dp_dig a (2 ^ n - 1) n = dp_sum (fun j => dp_pad a n j * 8 ^ (6 - j)) 7 := by
    unfold dp_dig
    rw [dp_sb_full, dp_sum_pad a (fun j => 8 ^ (6 - j)) n 7 hn]
  have hb : ∀ i, dp_pad a n i ≤ 4 := fun i => by
    unfold dp_pad
    split
    · exact ha i (by assumption)
    · omega
  rw [e]
  have h0 := hb 0
  have h1 := hb 1
  have h2 := hb 2
  have h3 := hb 3
  have h4 := hb 4
  have h5 := hb 5
  have h6 := hb 6
  simp only [dp_sum, Nat.reduceSub, Nat.reducePow]
  omega

