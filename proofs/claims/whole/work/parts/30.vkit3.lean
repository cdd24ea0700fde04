/-! sums over an order -/
theorem dp_sum_list (g : Nat → Nat) (n : Nat) : dp_sum g n = ((List.range n).map g).sum := by
  induction n with
  | zero => rfl
  | succ n ih => rw [List.range_succ, List.map_append, List.sum_append, ← ih]; simp [dp_sum]
theorem dp_sum_perm {d : Dt} {n : Nat} {o : Nat → Nat} (h : IsOrd d n o) (g : Nat → Nat) : dp_sum (fun k => g (o k)) n = dp_sum g n := by
  rw [dp_sum_list, dp_sum_list]
  have e : (List.range n).map (fun k => g (o k)) = ((List.range n).map o).map g := by rw [List.map_map]; rfl
  rw [e]
  apply List.Perm.sum_nat
  apply List.Perm.map
  have nd : ((List.range n).map o).Nodup := by
    rw [List.nodup_iff_pairwise_ne, List.pairwise_map]
    refine List.Pairwise.imp_of_mem ?_ (List.nodup_range (n := n))
    intro a b ha hb hne e
    exact hne (ord_inj h (List.mem_range.mp ha) (List.mem_range.mp hb) e)
  refine (List.perm_ext_iff_of_nodup nd List.nodup_range).mpr (fun a => ?_)
  rw [List.mem_map, List.mem_range]
  constructor
  · rintro ⟨k, hk, rfl⟩
    exact h.1 k (List.mem_range.mp hk)
  · intro ha
    obtain ⟨k, hk, e⟩ := h.2.2 a ha
    exact ⟨k, List.mem_range.mpr hk, e⟩
theorem dp_sum_congr {g g' : Nat → Nat} {n : Nat} (h : ∀ j, j < n → g j = g' j) : dp_sum g n = dp_sum g' n := by
  induction n with
  | zero => rfl
  | succ n ih => unfold dp_sum; rw [ih (fun j hj => h j (by omega)), h n (by omega)]
theorem dp_sum_skip {g : Nat → Nat} {k n : Nat} (hk : k ≤ n) (h : ∀ i, k ≤ i → i < n → g i = 0) : dp_sum g n = dp_sum g k := by
  induction n with
  | zero => have : k = 0 := by omega
            subst this; rfl
  | succ n ih =>
    by_cases e : k = n + 1
    · subst e; rfl
    · show dp_sum g n + g n = _
      rw [ih (by omega) (fun i a b => h i a (by omega)), h n (by omega) (by omega)]; rfl
theorem dp_sum_le {g : Nat → Nat} {n : Nat} (B : Nat) (h : ∀ j, j < n → g j ≤ B) : dp_sum g n ≤ B * n := by
  induction n with
  | zero => simp [dp_sum]
  | succ n ih =>
    have := ih (fun j hj => h j (by omega))
    have := h n (by omega)
    unfold dp_sum
    rw [Nat.mul_succ]; omega
theorem dp_sum_sb (g : Nat → Nat) (S n : Nat) : dp_sum (fun j => if S.testBit j then g j else 0) n = dp_sb g S n := by
  induction n with
  | zero => rfl
  | succ n ih => unfold dp_sum dp_sb; rw [ih]
/-- how many of S are among the first k of the order -/
def cnS (o : Nat → Nat) (S k : Nat) : Nat := dp_sum (fun i => if S.testBit (o i) then 1 else 0) k
theorem cnS_all {d : Dt} {n : Nat} {o : Nat → Nat} (h : IsOrd d n o) {S : Nat} (hn : n ≤ 7) (hS : S < 2 ^ n) : cnS o S n = pcn S := by
  unfold cnS pcn
  rw [dp_sum_perm h (fun j => if S.testBit j then 1 else 0), dp_sum_sb (fun _ => 1), dp_sb_ext hS hn]
theorem cnS_skip {o : Nat → Nat} {S k n : Nat} (hk : k ≤ n) (h : ∀ i, k ≤ i → i < n → S.testBit (o i) = false) : cnS o S n = cnS o S k :=
  dp_sum_skip hk (fun i a b => by simp [h i a b])
theorem cnS_le (o : Nat → Nat) (S k : Nat) : cnS o S k ≤ k := by
  have := dp_sum_le (g := fun i => if S.testBit (o i) then 1 else 0) (n := k) 1 (fun j _ => by split <;> omega)
  unfold cnS; omega
/-- an answer that may be none: far -/
def fv : Option Nat → Int32
  | none => 1000000000
  | some t => nI t
theorem zc_far : (1000000000 : Int32).toInt = 1000000000 := rfl
theorem fv_far {x : Option Nat} (h : ∀ t, x = some t → t < 1000000000) : fv x = 1000000000 ↔ x = none := by
  cases x with
  | none => simp [fv]
  | some t =>
    have := h t rfl
    simp only [fv, reduceCtorEq, iff_false, z_eq, z_nI (show t < 2147483648 by omega), zc_far]
    omega
theorem pj_neg {o : Nat → Nat} {n k : Nat} (ho : ∀ i, i < n → o i < 2147483648) : pj o n k < 0 ↔ n ≤ k := by
  unfold pj
  by_cases h : k < n
  · rw [if_pos h, z_lt, z_nI (ho k h), zc_0]; omega
  · rw [if_neg h]
    exact ⟨fun _ => by omega, fun _ => by decide⟩
/-- the place of x in the order -/
def ix (o : Nat → Nat) (x : Int32) : Nat → Nat → Nat
  | 0, k => k
  | f + 1, k => if nI (o k) = x then k else ix o x f (k + 1)
theorem ix_is {o : Nat → Nat} {x : Int32} : ∀ f k i, k ≤ i → i ≤ k + f → (∀ m, k ≤ m → m < i → nI (o m) ≠ x) → (i < k + f → nI (o i) = x) → ix o x f k = i := by
  intro f
  induction f with
  | zero => intro k i h1 h2 _ _; unfold ix; omega
  | succ f ih =>
    intro k i h1 h2 h3 h4
    unfold ix
    by_cases e : k = i
    · subst e; rw [if_pos (h4 (by omega))]
    · rw [if_neg (h3 k (Nat.le_refl k) (by omega))]
      exact ih (k + 1) i (by omega) (by omega) (fun m a b => h3 m (by omega) b) (fun z => h4 (by omega))
/-- how many places are left from x on -/
def mx (o : Nat → Nat) (n : Nat) (x : Int32) : Nat := n - ix o x n 0
theorem mx_pj {d : Dt} {n : Nat} {o : Nat → Nat} (h : IsOrd d n o) (hn : n ≤ 7) {k : Nat} (hk : k ≤ n) : mx o n (pj o n k) = n - k := by
  unfold mx
  congr 1
  refine ix_is n 0 k (Nat.zero_le k) (by omega) (fun m _ hm e => ?_) (fun z => ?_)
  · unfold pj at e
    have := h.1 m (by omega)
    by_cases z : k < n
    · rw [if_pos z, nI_eq (by omega) (by have := h.1 k z; omega)] at e
      have := ord_inj h (by omega) z e
      omega
    · rw [if_neg z, z_eq, z_nI (by omega), zc_m1] at e
      omega
  · unfold pj
    rw [if_pos (by omega)]
/-! an array of people for the reference's jobs: people as they are, nobody as the number of people -/
def av (σ : MI) (c : Nat) : Nat → Nat := fun j => (σ c j).toNatClampNeg
def AV (σ : MI) (c : Nat) : Prop := ∀ j, j < nJ (vm σ) → σ c j = nI (av σ c j) ∧ av σ c j ≤ nP (vm σ)
theorem av_of {σ : MI} {c j x : Nat} (hx : x < 2147483648) (h : σ c j = nI x) : av σ c j = x := by
  unfold av; rw [h, nI_clamp hx]
/-- nobody is 4 -/
def nb (P : Nat) (t : Nat → Nat) : Nat → Nat := fun j => if t j < P then t j else 4
def osum (f : Nat → Option Nat) : Nat → Option Nat
  | 0 => some 0
  | p + 1 => match osum f p with
    | none => none
    | some a => match f p with
      | none => none
      | some b => some (a + b)
theorem osum_none {f : Nat → Option Nat} {i n : Nat} (hi : i ≤ n) (h : osum f i = none) : osum f n = none := by
  induction n with
  | zero => have : i = 0 := by omega
            subst this; exact h
  | succ n ih =>
    by_cases e : i = n + 1
    · subst e; exact h
    · unfold osum; rw [ih (by omega)]
theorem osum_some {f : Nat → Option Nat} {i a b : Nat} (h : osum f i = some a) (hb : f i = some b) : osum f (i + 1) = some (a + b) := by
  rw [osum, h]; simp only [hb]
theorem osum_no {f : Nat → Option Nat} {i : Nat} (hb : f i = none) : osum f (i + 1) = none := by
  rw [osum]
  cases osum f i with
  | none => rfl
  | some a => simp only [hb]
theorem osum_le {f : Nat → Option Nat} {B n : Nat} (h : ∀ q, q < n → ∀ t, f q = some t → t ≤ B) : ∀ i, i ≤ n → ∀ a, osum f i = some a → a ≤ B * i := by
  intro i
  induction i with
  | zero => intro _ a ha; unfold osum at ha; injection ha with ha; omega
  | succ i ih =>
    intro hi a ha
    rw [osum] at ha
    cases hx : osum f i with
    | none => rw [hx] at ha; cases ha
    | some x =>
      rw [hx] at ha
      cases hy : f i with
      | none => simp only [hy] at ha; cases ha
      | some y =>
        simp only [hy] at ha
        injection ha with ha
        have := ih (by omega) x hx
        have := h i (by omega) y hy
        rw [Nat.mul_succ]; omega
theorem osum_iff {f : Nat → Option Nat} (n : Nat) : (∃ a, osum f n = some a) ↔ ∀ q, q < n → ∃ t, f q = some t := by
  induction n with
  | zero => exact ⟨fun _ q hq => absurd hq (Nat.not_lt_zero q), fun _ => ⟨0, rfl⟩⟩
  | succ n ih =>
    constructor
    · rintro ⟨a, ha⟩ q hq
      rw [osum] at ha
      cases hx : osum f n with
      | none => rw [hx] at ha; cases ha
      | some x =>
        rw [hx] at ha
        by_cases e : q = n
        · subst e
          cases hy : f q with
          | none => simp only [hy] at ha; cases ha
          | some y => exact ⟨y, rfl⟩
        · exact ih.mp ⟨x, hx⟩ q (by omega)
    · intro h
      obtain ⟨a, ha⟩ := ih.mpr (fun q hq => h q (by omega))
      obtain ⟨b, hb⟩ := h n (by omega)
      exact ⟨a + b, osum_some ha hb⟩
theorem nI_mul (a b : Nat) : nI a * nI b = nI (a * b) := by
  apply Int32.toBitVec_inj.1
  show BitVec.ofNat 32 a * BitVec.ofNat 32 b = BitVec.ofNat 32 (a * b)
  apply BitVec.eq_of_toNat_eq
  simp [BitVec.toNat_mul, BitVec.toNat_ofNat, Nat.mul_mod]

