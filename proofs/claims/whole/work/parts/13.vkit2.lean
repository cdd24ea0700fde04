/-! sizes by their numbers; longs (rows of BITS.to-paste: wb_tb .. wb_shl, pf_lI, pf_shr) -/
theorem vx_8 {σ : MI} (h : Vd (vx σ)) : σ 8 0 = nI (nJ (vx σ)) := by
  have h1 := h.2.1
  simp only [vx] at h1
  exact z_of h1.1
theorem vx_1 {σ : MI} (h : Vd (vx σ)) : σ 1 0 = nI (nP (vx σ)) := by
  have h1 := h.1
  simp only [vx] at h1
  exact z_of h1.1
theorem vx_15 {σ : MI} (h : Vd (vx σ)) : σ 15 0 = nI (nT (vx σ)) := by
  have h1 := h.2.2.1
  simp only [vx] at h1
  exact z_of h1.1
theorem vm_8 {σ : MI} (h : Vd (vm σ)) : σ 29 10 = nI (nJ (vm σ)) := by
  have h1 := h.2.1
  simp only [vm] at h1
  exact z_of h1.1
theorem vm_1 {σ : MI} (h : Vd (vm σ)) : σ 29 1 = nI (nP (vm σ)) := by
  have h1 := h.1
  simp only [vm] at h1
  exact z_of h1.1
theorem vm_15 {σ : MI} (h : Vd (vm σ)) : σ 29 8 = nI (nT (vm σ)) := by
  have h1 := h.2.2.1
  simp only [vm] at h1
  exact z_of h1.1
theorem wb_tb (n : Nat) : (lN n).toBitVec = BitVec.ofNat 64 n := rfl
theorem wb_inj {a b : Int64} (h : a.toBitVec = b.toBitVec) : a = b := Int64.toBitVec_inj.mp h
theorem wb_c : ∀ k, k < 64 → ((nI k).toInt64 &&& 63) = lN k := by decide +kernel
theorem wb_sm : ∀ k, k < 64 → (BitVec.ofNat 64 k).smod 64 = BitVec.ofNat 64 k := by decide +kernel
theorem wb_shl (n : Nat) {k : Nat} (hk : k < 64) : lN n <<< ((nI k).toInt64 &&& 63) = lN (n * 2 ^ k) := by
  rw [wb_c k hk]
  apply wb_inj
  rw [Int64.toBitVec_shiftLeft, wb_tb, wb_tb, wb_tb, wb_sm k hk]
  apply BitVec.eq_of_toNat_eq
  rw [BitVec.shiftLeft_eq', BitVec.toNat_shiftLeft, BitVec.toNat_ofNat, BitVec.toNat_ofNat, BitVec.toNat_ofNat, Nat.mod_eq_of_lt (show k < 2 ^ 64 by omega), Nat.shiftLeft_eq, Nat.mul_mod, Nat.mod_mod, ← Nat.mul_mod]
theorem pf_lI {a : Nat} (h : a < 2 ^ 63) : (lN a).toInt = (a : Int) := pk_lT h
theorem pf_shr {a d : Nat} {D : Int64} (hD : (D.toBitVec.smod 64).toNat = d) (h : a < 2 ^ 62) : lN a >>> D = lN (a / 2 ^ d) := by
  have hd : a / 2 ^ d ≤ a := Nat.div_le_self _ _
  apply Int64.toInt_inj.mp
  have e : (lN a >>> D).toInt = (lN a).toInt >>> d := by
    rw [← hD]
    exact BitVec.toInt_sshiftRight ..
  rw [e, Int.shiftRight_eq_div_pow, pf_lI (by omega), pf_lI (by omega)]
  rfl
theorem wb_sr : ∀ k, k < 64 → (((nI k).toInt64 &&& 63).toBitVec.smod 64).toNat = k := by decide +kernel
theorem wb_shrs {n k : Nat} (hn : n < 2 ^ 62) (hk : k < 64) : lN n >>> ((nI k).toInt64 &&& 63) = lN (n / 2 ^ k) := pf_shr (wb_sr k hk) hn
theorem lz_lN {n : Nat} (h : n < 2 ^ 63) : (lN n).toInt.toNat = n := by rw [pf_lI h]; rfl
theorem dp_sb_ext {g : Nat → Nat} {S n m : Nat} (hS : S < 2 ^ n) (h : n ≤ m) : dp_sb g S m = dp_sb g S n := by
  induction m with
  | zero => have : n = 0 := by omega
            subst this; rfl
  | succ m ih =>
    by_cases e : n = m + 1
    · subst e; rfl
    · show dp_sb g S m + (if S.testBit m then g m else 0) = dp_sb g S n
      rw [ih (by omega), Nat.testBit_lt_two_pow (Nat.lt_of_lt_of_le hS (Nat.pow_le_pow_right (by decide) (by omega)))]
      simp
theorem dp_sb_le {g : Nat → Nat} {S : Nat} (B : Nat) (hg : ∀ j, g j ≤ B) (n : Nat) : dp_sb g S n ≤ B * n := by
  induction n with
  | zero => simp [dp_sb]
  | succ n ih =>
    unfold dp_sb
    have := hg n
    rw [Nat.mul_succ]
    split <;> omega
/-- an answer that may be none: -1 -/
def ov : Option Nat → Int32
  | none => -1
  | some t => nI t
theorem ov_m1 {x : Option Nat} (h : ∀ t, x = some t → t < 2147483648) : ov x = -1 ↔ x = none := by
  cases x with
  | none => simp [ov]
  | some t =>
    have := h t rfl
    simp only [ov, reduceCtorEq, iff_false, z_eq, z_nI this, zc_m1]
    first | done | omega
/-- the order stands in the class's array -/
def Orx (σ : MI) : Prop := ∀ k, k < nJ (vx σ) → σ 14 k = nI (od (vx σ) (nJ (vx σ)) k)
theorem trv_rng {d : Dt} {o : Nat → Nat} {p S n t : Nat} (hd : Vd d) (hp : p < 4) (hn : n ≤ 7) (ho : ∀ k, k < n → o k < 7) (h : trv d o p S n = some t) : t ≤ 2100 := by
  unfold trv at h
  split at h
  · cases h
  · cases hx : tvf d o p S n with
    | none => rw [hx] at h; simp at h
    | some x =>
      obtain ⟨a, f, v⟩ := x
      rw [hx] at h
      have := tvf_rng hd hp ho n a f v (Nat.le_refl n) hx
      simp at h
      omega

