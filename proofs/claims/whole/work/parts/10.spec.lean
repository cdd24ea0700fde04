/-! The data of both sides, in the class's numbers of cells: d c i -/
abbrev Dt : Type := Nat → Nat → Int
def vx (σ : MI) : Dt := fun c i => match c with
  | 1 => (σ 1 0).toInt
  | 2 => (σ 2 i).toInt
  | 3 => (σ 3 i).toInt
  | 4 => (σ 4 i).toInt
  | 5 => (σ 5 i).toInt
  | 6 => (σ 6 i).toInt
  | 8 => (σ 8 0).toInt
  | 9 => (σ 9 i).toInt
  | 10 => (σ 10 i).toInt
  | 11 => (σ 11 i).toInt
  | 12 => (σ 12 i).toInt
  | 13 => (σ 13 i).toInt
  | 15 => (σ 15 0).toInt
  | 16 => (σ 16 i).toInt
  | 17 => (σ 17 0).toInt
  | 18 => (σ 18 i).toInt
  | _ => 0
def vm (σ : MI) : Dt := fun c i => match c with
  | 1 => (σ 29 1).toInt
  | 2 => (σ 30 i).toInt
  | 3 => (σ 31 i).toInt
  | 4 => (σ 32 i).toInt
  | 5 => (σ 33 i).toInt
  | 6 => (σ 34 i).toInt
  | 8 => (σ 29 10).toInt
  | 9 => (σ 37 i).toInt
  | 10 => (σ 38 i).toInt
  | 11 => (σ 39 i).toInt
  | 12 => (σ 40 i).toInt
  | 13 => (σ 41 i).toInt
  | 15 => (σ 29 8).toInt
  | 16 => (σ 36 i).toInt
  | 17 => (σ 29 17).toInt
  | 18 => (σ 42 i).toInt
  | _ => 0
theorem vx_congr {σ σ' : MI} (h1 : σ' 1 0 = σ 1 0) (h8 : σ' 8 0 = σ 8 0) (h15 : σ' 15 0 = σ 15 0) (h17 : σ' 17 0 = σ 17 0) (h : ∀ c, c ∈ [2, 3, 4, 5, 6, 9, 10, 11, 12, 13, 16, 18] → σ' c = σ c) : vx σ' = vx σ := by
  funext c i
  unfold vx
  split
  · rw [h1]
  · rw [h 2 (by decide)]
  · rw [h 3 (by decide)]
  · rw [h 4 (by decide)]
  · rw [h 5 (by decide)]
  · rw [h 6 (by decide)]
  · rw [h8]
  · rw [h 9 (by decide)]
  · rw [h 10 (by decide)]
  · rw [h 11 (by decide)]
  · rw [h 12 (by decide)]
  · rw [h 13 (by decide)]
  · rw [h15]
  · rw [h 16 (by decide)]
  · rw [h17]
  · rw [h 18 (by decide)]
  · rfl
theorem vm_congr {σ σ' : MI} (h1 : σ' 29 1 = σ 29 1) (h8 : σ' 29 10 = σ 29 10) (h15 : σ' 29 8 = σ 29 8) (h17 : σ' 29 17 = σ 29 17) (h : ∀ c, c ∈ [30, 31, 32, 33, 34, 36, 37, 38, 39, 40, 41, 42] → σ' c = σ c) : vm σ' = vm σ := by
  funext c i
  unfold vm
  split
  · rw [h1]
  · rw [h 30 (by decide)]
  · rw [h 31 (by decide)]
  · rw [h 32 (by decide)]
  · rw [h 33 (by decide)]
  · rw [h 34 (by decide)]
  · rw [h8]
  · rw [h 37 (by decide)]
  · rw [h 38 (by decide)]
  · rw [h 39 (by decide)]
  · rw [h 40 (by decide)]
  · rw [h 41 (by decide)]
  · rw [h15]
  · rw [h 36 (by decide)]
  · rw [h17]
  · rw [h 42 (by decide)]
  · rfl
def nP (d : Dt) : Nat := (d 1 0).toNat
def nJ (d : Dt) : Nat := (d 8 0).toNat
def nT (d : Dt) : Nat := (d 15 0).toNat
/-- what can be -/
def Vd (d : Dt) : Prop :=
  (0 ≤ d 1 0 ∧ d 1 0 ≤ 4) ∧ (0 ≤ d 8 0 ∧ d 8 0 ≤ 7) ∧ (0 ≤ d 15 0 ∧ d 15 0 ≤ 6) ∧ (0 ≤ d 17 0 ∧ d 17 0 ≤ 300) ∧
  (∀ p, p < 4 → (0 ≤ d 2 p ∧ d 2 p ≤ 5) ∧ (0 ≤ d 3 p ∧ d 3 p ≤ 2880) ∧ (0 ≤ d 4 p ∧ d 4 p ≤ 2880) ∧ (0 ≤ d 5 p ∧ d 5 p ≤ 4) ∧ (0 ≤ d 6 p ∧ d 6 p ≤ 4)) ∧
  (∀ j, j < 7 → (0 ≤ d 9 j ∧ d 9 j ≤ 5) ∧ (0 ≤ d 10 j ∧ d 10 j ≤ 300) ∧ (0 ≤ d 11 j ∧ d 11 j ≤ 2880) ∧ (0 ≤ d 12 j ∧ d 12 j ≤ 2880) ∧ (0 ≤ d 13 j ∧ d 13 j ≤ 4)) ∧
  (∀ t, t < 6 → 0 ≤ d 16 t ∧ d 16 t ≤ 100) ∧ (∀ k, k < 25 → 0 ≤ d 18 k ∧ d 18 k ≤ 300) ∧ (∀ j, j < nJ d → d 11 j < d 12 j)
theorem Vd.nPl {d : Dt} (h : Vd d) : nP d ≤ 4 ∧ (nP d : Int) = d 1 0 := by
  have := h.1; unfold nP; omega
theorem Vd.nJl {d : Dt} (h : Vd d) : nJ d ≤ 7 ∧ (nJ d : Int) = d 8 0 := by
  have := h.2.1; unfold nJ; omega
theorem Vd.nTl {d : Dt} (h : Vd d) : nT d ≤ 6 ∧ (nT d : Int) = d 15 0 := by
  have := h.2.2.1; unfold nT; omega
theorem Vd.ppl {d : Dt} (h : Vd d) {p : Nat} (hp : p < 4) : (0 ≤ d 2 p ∧ d 2 p ≤ 5) ∧ (0 ≤ d 3 p ∧ d 3 p ≤ 2880) ∧ (0 ≤ d 4 p ∧ d 4 p ≤ 2880) ∧ (0 ≤ d 5 p ∧ d 5 p ≤ 4) ∧ (0 ≤ d 6 p ∧ d 6 p ≤ 4) := h.2.2.2.2.1 p hp
theorem Vd.job {d : Dt} (h : Vd d) {j : Nat} (hj : j < 7) : (0 ≤ d 9 j ∧ d 9 j ≤ 5) ∧ (0 ≤ d 10 j ∧ d 10 j ≤ 300) ∧ (0 ≤ d 11 j ∧ d 11 j ≤ 2880) ∧ (0 ≤ d 12 j ∧ d 12 j ≤ 2880) ∧ (0 ≤ d 13 j ∧ d 13 j ≤ 4) := h.2.2.2.2.2.1 j hj
theorem Vd.tug {d : Dt} (h : Vd d) {t : Nat} (ht : t < 6) : 0 ≤ d 16 t ∧ d 16 t ≤ 100 := h.2.2.2.2.2.2.1 t ht
theorem Vd.way {d : Dt} (h : Vd d) {k : Nat} (hk : k < 25) : 0 ≤ d 18 k ∧ d 18 k ≤ 300 := h.2.2.2.2.2.2.2.1 k hk
theorem Vd.rest {d : Dt} (h : Vd d) : 0 ≤ d 17 0 ∧ d 17 0 ≤ 300 := h.2.2.2.1
theorem Vd.span {d : Dt} (h : Vd d) {j : Nat} (hj : j < nJ d) : d 11 j < d 12 j := h.2.2.2.2.2.2.2.2 j hj
/-- the order of the jobs -/
def klt (d : Dt) (a b : Nat) : Prop := d 11 a < d 11 b ∨ (d 11 a = d 11 b ∧ a < b)
def IsOrd (d : Dt) (n : Nat) (o : Nat → Nat) : Prop :=
  (∀ k, k < n → o k < n) ∧ (∀ k l, k < l → l < n → klt d (o k) (o l)) ∧ ∀ j, j < n → ∃ k, k < n ∧ o k = j
theorem ord_ex (d : Dt) (n : Nat) : ∃ o, IsOrd d n o := by
  have hL := List.pairwise_mergeSort (le := fun a b => decide (d 11 a < d 11 b ∨ (d 11 a = d 11 b ∧ a ≤ b))) (fun a b c h1 h2 => by
    simp only [decide_eq_true_eq] at h1 h2 ⊢
    omega) (fun a b => by
    simp only [Bool.or_eq_true, decide_eq_true_eq]
    omega) (List.range n)
  have hlen : (List.mergeSort (List.range n) (fun a b => decide (d 11 a < d 11 b ∨ (d 11 a = d 11 b ∧ a ≤ b)))).length = n := by
    rw [List.length_mergeSort, List.length_range]
  have hnd : (List.mergeSort (List.range n) (fun a b => decide (d 11 a < d 11 b ∨ (d 11 a = d 11 b ∧ a ≤ b)))).Nodup := (List.mergeSort_perm _ _).nodup_iff.mpr List.nodup_range
  have hmem : ∀ j, j ∈ List.mergeSort (List.range n) (fun a b => decide (d 11 a < d 11 b ∨ (d 11 a = d 11 b ∧ a ≤ b))) ↔ j < n := fun j => by
    rw [List.mem_mergeSort, List.mem_range]
  generalize List.mergeSort (List.range n) (fun a b => decide (d 11 a < d 11 b ∨ (d 11 a = d 11 b ∧ a ≤ b))) = L at hL hlen hnd hmem
  have hget : ∀ k (h : k < n), L.getD k 0 = L[k]'(by omega) := fun k h => by
    rw [List.getD_eq_getElem?_getD, List.getElem?_eq_getElem (by omega)]; rfl
  refine ⟨fun k => L.getD k 0, fun k hk => ?_, fun k l hkl hl => ?_, fun j hj => ?_⟩
  · show L.getD k 0 < n
    rw [hget k hk]
    exact (hmem _).mp (List.getElem_mem _)
  · show klt d (L.getD k 0) (L.getD l 0)
    rw [hget k (by omega), hget l hl]
    have h1 := List.pairwise_iff_getElem.mp hL k l (by omega) (by omega) hkl
    have h2 := List.pairwise_iff_getElem.mp hnd k l (by omega) (by omega) hkl
    simp only [decide_eq_true_eq] at h1
    unfold klt
    omega
  · obtain ⟨k, hk, e⟩ := List.getElem_of_mem ((hmem j).mpr hj)
    refine ⟨k, by omega, ?_⟩
    show L.getD k 0 = j
    rw [hget k (by omega)]
    exact e
theorem ord_lt {d : Dt} {n : Nat} {o : Nat → Nat} (h : IsOrd d n o) {k l : Nat} (hk : k < n) (hl : l < n) : klt d (o k) (o l) ↔ k < l := by
  constructor
  · intro z
    rcases Nat.lt_trichotomy k l with e | e | e
    · exact e
    · subst e; unfold klt at z; omega
    · have := h.2.1 l k e hk
      unfold klt at z this
      omega
  · exact fun e => h.2.1 k l e hl
theorem ord_inj {d : Dt} {n : Nat} {o : Nat → Nat} (h : IsOrd d n o) {k l : Nat} (hk : k < n) (hl : l < n) (e : o k = o l) : k = l := by
  rcases Nat.lt_trichotomy k l with z | z | z
  · have := h.2.1 k l z hl
    rw [e] at this; unfold klt at this; omega
  · exact z
  · have := h.2.1 l k z hk
    rw [e] at this; unfold klt at this; omega
theorem ord_uniq {d : Dt} {n : Nat} {o o' : Nat → Nat} (h : IsOrd d n o) (h' : IsOrd d n o') : ∀ k, k < n → o k = o' k := by
  intro k
  induction k using Nat.strongRecOn with
  | ind k ih =>
    intro hk
    obtain ⟨a, ha, ea⟩ := h'.2.2 (o k) (h.1 k hk)
    obtain ⟨b, hb, eb⟩ := h.2.2 (o' k) (h'.1 k hk)
    rcases Nat.lt_trichotomy a k with z | z | z
    · have := ih a z (by omega)
      rw [ea] at this
      have := ord_inj h (by omega) hk this
      omega
    · rw [← ea, z]
    · rcases Nat.lt_trichotomy b k with y | y | y
      · have := ih b y (by omega)
        rw [eb] at this
        have := ord_inj h' (by omega) hk this.symm
        omega
      · rw [← eb, y]
      · have h1 := h.2.1 k b y hb
        have h2 := h'.2.1 k a z ha
        rw [eb] at h1
        rw [ea] at h2
        unfold klt at h1 h2
        omega
noncomputable def od (d : Dt) (n : Nat) : Nat → Nat := Classical.choose (ord_ex d n)
theorem od_ok (d : Dt) (n : Nat) : IsOrd d n (od d n) := Classical.choose_spec (ord_ex d n)
theorem od_eq {d : Dt} {n : Nat} {o : Nat → Nat} (h : IsOrd d n o) : ∀ k, k < n → o k = od d n k := ord_uniq h (od_ok d n)
/-- the next place from k on whose job is in S -/
def nxf (o : Nat → Nat) (S : Nat) : Nat → Nat → Nat
  | 0, k => k
  | f + 1, k => if S.testBit (o k) then k else nxf o S f (k + 1)
def nxp (o : Nat → Nat) (S n k : Nat) : Nat := nxf o S (n - k) k
theorem nxf_spec (o : Nat → Nat) (S : Nat) : ∀ f k, k ≤ nxf o S f k ∧ nxf o S f k ≤ k + f ∧ (∀ i, k ≤ i → i < nxf o S f k → S.testBit (o i) = false) ∧ (nxf o S f k < k + f → S.testBit (o (nxf o S f k)) = true) := by
  intro f
  induction f with
  | zero => intro k; refine ⟨Nat.le_refl k, Nat.le_refl k, fun i h1 h2 => absurd h2 (by unfold nxf; omega), fun h => absurd h (by unfold nxf; omega)⟩
  | succ f ih =>
    intro k
    unfold nxf
    by_cases h : S.testBit (o k) = true
    · rw [if_pos h]
      exact ⟨Nat.le_refl k, by omega, fun i h1 h2 => by omega, fun _ => h⟩
    · rw [if_neg h]
      obtain ⟨h1, h2, h3, h4⟩ := ih (k + 1)
      refine ⟨by omega, by omega, fun i i1 i2 => ?_, fun z => h4 (by omega)⟩
      by_cases e : i = k
      · subst e; simpa using h
      · exact h3 i (by omega) i2
theorem nxp_spec {o : Nat → Nat} {S n k : Nat} (hk : k ≤ n) : k ≤ nxp o S n k ∧ nxp o S n k ≤ n ∧ (∀ i, k ≤ i → i < nxp o S n k → S.testBit (o i) = false) ∧ (nxp o S n k < n → S.testBit (o (nxp o S n k)) = true) := by
  obtain ⟨h1, h2, h3, h4⟩ := nxf_spec o S (n - k) k
  unfold nxp
  exact ⟨h1, by omega, h3, fun z => h4 (by omega)⟩
theorem nxp_uniq {o : Nat → Nat} {S n k i : Nat} (hk : k ≤ i) (hi : i ≤ n) (h1 : ∀ j, k ≤ j → j < i → S.testBit (o j) = false) (h2 : i < n → S.testBit (o i) = true) : nxp o S n k = i := by
  obtain ⟨a1, a2, a3, a4⟩ := nxp_spec (o := o) (S := S) (n := n) (k := k) (by omega)
  rcases Nat.lt_trichotomy (nxp o S n k) i with z | z | z
  · have := h1 _ a1 z
    rw [a4 (by omega)] at this
    cases this
  · exact z
  · have := a3 i hk z
    rw [h2 (by omega)] at this
    cases this
/-- the travel of p's doing just S: the place, the time from which they are free, the travel, behind the first k jobs of the order -/
def tvf (d : Dt) (o : Nat → Nat) (p S : Nat) : Nat → Option (Int × Int × Int)
  | 0 => some (d 5 p, d 3 p, 0)
  | k + 1 => match tvf d o p S k with
    | none => none
    | some (a, f, t) => if S.testBit (o k) = true then
        (if d 9 (o k) ≤ d 2 p ∧ d 12 (o k) ≤ d 4 p ∧ ¬ (d 6 p = 1 ∧ d 11 (o k) < 360) ∧ f + d 18 (a * 5 + d 13 (o k)).toNat ≤ d 11 (o k) then some (d 13 (o k), d 12 (o k) + d 17 0, t + d 18 (a * 5 + d 13 (o k)).toNat) else none)
      else some (a, f, t)
def pcn (S : Nat) : Nat := dp_sb (fun _ => 1) S 7
def trv (d : Dt) (o : Nat → Nat) (p S n : Nat) : Option Nat := if d 6 p = 2 ∧ 2 < pcn S then none else (tvf d o p S n).map (fun x => x.2.2.toNat)
theorem tvf_none {d : Dt} {o : Nat → Nat} {p S : Nat} {k n : Nat} (hk : k ≤ n) (h : tvf d o p S k = none) : tvf d o p S n = none := by
  induction n with
  | zero => have : k = 0 := by omega
            subst this; exact h
  | succ n ih =>
    by_cases e : k = n + 1
    · subst e; exact h
    · have := ih (by omega)
      unfold tvf
      rw [this]
theorem tvf_skip {d : Dt} {o : Nat → Nat} {p S : Nat} {k n : Nat} (hk : k ≤ n) (h : ∀ i, k ≤ i → i < n → S.testBit (o i) = false) : tvf d o p S n = tvf d o p S k := by
  induction n with
  | zero => have : k = 0 := by omega
            subst this; rfl
  | succ n ih =>
    by_cases e : k = n + 1
    · subst e; rfl
    · have h1 := ih (by omega) (fun i a b => h i a (by omega))
      have h2 := h n (by omega) (by omega)
      rw [← h1]
      show (match tvf d o p S n with | none => none | some (a, f, t) => _) = _
      cases hx : tvf d o p S n with
      | none => rfl
      | some x => simp only [h2]; rfl
theorem tvf_rng {d : Dt} {o : Nat → Nat} {p S n : Nat} (hd : Vd d) (hp : p < 4) (ho : ∀ k, k < n → o k < 7) : ∀ k a f t, k ≤ n → tvf d o p S k = some (a, f, t) → 0 ≤ a ∧ a ≤ 4 ∧ 0 ≤ f ∧ f ≤ 3180 ∧ 0 ≤ t ∧ t ≤ 300 * k := by
  intro k
  induction k with
  | zero =>
    intro a f t _ h
    have := hd.ppl hp
    simp only [tvf, Option.some.injEq, Prod.mk.injEq] at h
    omega
  | succ k ih =>
    intro a f t hk h
    unfold tvf at h
    cases hx : tvf d o p S k with
    | none => rw [hx] at h; simp at h
    | some x =>
      obtain ⟨a1, f1, t1⟩ := x
      have hi := ih a1 f1 t1 (by omega) hx
      have hj := hd.job (ho k (by omega))
      have hr := hd.rest
      rw [hx] at h
      have hw := hd.way (k := (a1 * 5 + d 13 (o k)).toNat) (by omega)
      simp only at h
      split at h
      · split at h
        · simp only [Option.some.injEq, Prod.mk.injEq] at h
          omega
        · simp at h
      · simp only [Option.some.injEq, Prod.mk.injEq] at h
        omega

