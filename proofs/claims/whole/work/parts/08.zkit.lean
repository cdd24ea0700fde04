/-! Int32 and Int64 by their integers -/
theorem z_lt {a b : Int32} : a < b ↔ a.toInt < b.toInt := Int32.lt_iff_toInt_lt
theorem z_le {a b : Int32} : a ≤ b ↔ a.toInt ≤ b.toInt := Int32.le_iff_toInt_le
theorem z_eq {a b : Int32} : a = b ↔ a.toInt = b.toInt := Int32.toInt_inj.symm
theorem z_rng (a : Int32) : -2147483648 ≤ a.toInt ∧ a.toInt < 2147483648 := ⟨a.le_toInt, a.toInt_lt⟩
theorem z_add {a b : Int32} (h1 : -2147483648 ≤ a.toInt + b.toInt) (h2 : a.toInt + b.toInt < 2147483648) : (a + b).toInt = a.toInt + b.toInt := by
  rw [Int32.toInt_add]
  exact Int.bmod_eq_of_le (by simpa using h1) (by simpa using h2)
theorem z_sub {a b : Int32} (h1 : -2147483648 ≤ a.toInt - b.toInt) (h2 : a.toInt - b.toInt < 2147483648) : (a - b).toInt = a.toInt - b.toInt := by
  rw [Int32.toInt_sub]
  exact Int.bmod_eq_of_le (by simpa using h1) (by simpa using h2)
theorem z_mul {a b : Int32} (h1 : -2147483648 ≤ a.toInt * b.toInt) (h2 : a.toInt * b.toInt < 2147483648) : (a * b).toInt = a.toInt * b.toInt := by
  rw [Int32.toInt_mul]
  exact Int.bmod_eq_of_le (by simpa using h1) (by simpa using h2)
theorem z_cl (x : Int32) : x.toNatClampNeg = x.toInt.toNat := rfl
theorem z_in {x : Int32} {n : Nat} : vp_in x n ↔ 0 ≤ x.toInt ∧ x.toInt < n := vp_in_iff
theorem z_nI {k : Nat} (h : k < 2147483648) : (nI k).toInt = k := nI_toInt h
/-- a number that isn't negative, by its Nat -/
theorem z_of {x : Int32} (h : 0 ≤ x.toInt) : x = nI x.toInt.toNat := by
  rw [z_eq, z_nI (by have := z_rng x; omega)]
  omega
theorem zl_lt {a b : Int64} : a < b ↔ a.toInt < b.toInt := Int64.lt_iff_toInt_lt
theorem zl_le {a b : Int64} : a ≤ b ↔ a.toInt ≤ b.toInt := Int64.le_iff_toInt_le
theorem zl_eq {a b : Int64} : a = b ↔ a.toInt = b.toInt := Int64.toInt_inj.symm
theorem zl_add {a b : Int64} (h1 : -9223372036854775808 ≤ a.toInt + b.toInt) (h2 : a.toInt + b.toInt < 9223372036854775808) : (a + b).toInt = a.toInt + b.toInt := by
  rw [Int64.toInt_add]
  exact Int.bmod_eq_of_le (by simpa using h1) (by simpa using h2)
theorem zl_cmp0 {x y : Int64} : lg_cmp x y = 0 ↔ x = y := lg_cmp_eq x y
theorem st2_at {σ : MI} {c i a b : Nat} {v : Int32} : st2 σ c i v a b = if a = c ∧ b = i then v else σ a b := by
  unfold st2 upd
  by_cases h1 : a = c <;> by_cases h2 : b = i <;> simp [h1, h2]
theorem sl2_at {τ : ML} {c i a b : Nat} {v : Int64} : sl2 τ c i v a b = if a = c ∧ b = i then v else τ a b := by
  unfold sl2 vp_updL
  by_cases h1 : a = c <;> by_cases h2 : b = i <;> simp [h1, h2]
theorem st2_ne {σ : MI} {c i a : Nat} {v : Int32} (h : a ≠ c) : st2 σ c i v a = σ a := by
  unfold st2; rw [if_neg h]
theorem sl2_ne {τ : ML} {c i a : Nat} {v : Int64} (h : a ≠ c) : sl2 τ c i v a = τ a := by
  unfold sl2; rw [if_neg h]
theorem st1_ne {σ : MI} {c a : Nat} {f : Nat → Int32} (h : a ≠ c) : st1 σ c f a = σ a := by
  unfold st1; rw [if_neg h]
/-- bits of small numbers -/
theorem zb_and (a b : Nat) : nI a &&& nI b = nI (a &&& b) := by
  apply Int32.toBitVec_inj.1
  show BitVec.ofNat 32 a &&& BitVec.ofNat 32 b = BitVec.ofNat 32 (a &&& b)
  apply BitVec.eq_of_getLsbD_eq
  intro i hi
  simp [hi]
theorem zb_xor (a b : Nat) : nI a ^^^ nI b = nI (a ^^^ b) := by
  apply Int32.toBitVec_inj.1
  show BitVec.ofNat 32 a ^^^ BitVec.ofNat 32 b = BitVec.ofNat 32 (a ^^^ b)
  apply BitVec.eq_of_getLsbD_eq
  intro i hi
  simp [hi]
theorem zb_or (a b : Nat) : nI a ||| nI b = nI (a ||| b) := by
  apply Int32.toBitVec_inj.1
  show BitVec.ofNat 32 a ||| BitVec.ofNat 32 b = BitVec.ofNat 32 (a ||| b)
  apply BitVec.eq_of_getLsbD_eq
  intro i hi
  simp [hi]
theorem zb_s : ∀ n, n < 32 → ((nI n &&& 31).toBitVec.smod 32).toNat = n := by decide +kernel
theorem zb_bit {S j : Nat} (hS : S < 2147483648) (hj : j < 32) : (nI S >>> (nI j &&& 31)) &&& 1 = nI (if S.testBit j then 1 else 0) := by
  rw [pk_shrN hS _ j (zb_s j hj)]
  show nI (S / 2 ^ j) &&& nI 1 = _
  rw [zb_and, Nat.and_one_is_mod]
  have h := Nat.testBit_eq_decide_div_mod_eq (x := S) (i := j)
  rcases Nat.mod_two_eq_zero_or_one (S / 2 ^ j) with e | e
  · rw [e] at h ⊢; simp at h; rw [h]; rfl
  · rw [e] at h ⊢; simp at h; rw [h]; rfl
theorem zb_one {j : Nat} (hj : j < 31) : (1 : Int32) <<< (nI j &&& 31) = nI (2 ^ j) := by
  have h := pk_shlN (n := 1) (nI j &&& 31) j (zb_s j (by omega)) (by rw [Nat.one_mul]; exact Nat.pow_lt_pow_right (by decide) (by omega))
  rw [Nat.one_mul] at h
  exact h
theorem zb_sub {a b : Nat} (h : ∀ j, a.testBit j = true → b.testBit j = true) : a ≤ b := by
  have e : a &&& b = a := by
    apply Nat.eq_of_testBit_eq
    intro j
    rw [Nat.testBit_and]
    cases hj : a.testBit j
    · rfl
    · rw [h j hj]; rfl
  rw [← e]
  exact Nat.and_le_right

