/-! what follows from the doers a: where p stands behind the first k jobs of the order, the travel to each, the sums -/
def wat (d : Dt) (o a : Nat → Nat) (p : Nat) : Nat → Int
  | 0 => d 5 p
  | k + 1 => if a (o k) = p then d 13 (o k) else wat d o a p k
def ttn (d : Dt) (o a : Nat → Nat) (p k : Nat) : Nat := (d 18 (wat d o a p k * 5 + d 13 (o k)).toNat).toNat
def trs (d : Dt) (o a : Nat → Nat) (p : Nat) : Nat → Nat
  | 0 => 0
  | k + 1 => trs d o a p k + (if a (o k) = p then ttn d o a p k else 0)
def cnp (o a : Nat → Nat) (p : Nat) : Nat → Nat
  | 0 => 0
  | k + 1 => cnp o a p k + (if a (o k) = p then 1 else 0)
theorem wat_rng {d : Dt} (hd : Vd d) {o a : Nat → Nat} {p n : Nat} (hp : p < 4) (ho : ∀ k, k < n → o k < 7) : ∀ k, k ≤ n → 0 ≤ wat d o a p k ∧ wat d o a p k ≤ 4 := by
  intro k
  induction k with
  | zero => intro _; exact (hd.ppl hp).2.2.2.1
  | succ k ih =>
    intro hk
    unfold wat
    split
    · exact (hd.job (ho k (by omega))).2.2.2.2
    · exact ih (by omega)
theorem trs_le {d : Dt} (hd : Vd d) {o a : Nat → Nat} {p n : Nat} (hp : p < 4) (ho : ∀ k, k < n → o k < 7) : ∀ k, k ≤ n → trs d o a p k ≤ 300 * k := by
  intro k
  induction k with
  | zero => intro _; exact Nat.le_refl 0
  | succ k ih =>
    intro hk
    have h1 := ih (by omega)
    have h2 := wat_rng hd hp ho (a := a) k (by omega)
    have h3 := (hd.job (ho k (by omega))).2.2.2.2
    have h4 := hd.way (k := (wat d o a p k * 5 + d 13 (o k)).toNat) (by omega)
    unfold trs ttn
    split <;> omega
/-- the doers as the class holds them -/
def adx (σ : MI) : Nat → Nat := fun j => if σ 23 j = -1 then 4 else (σ 23 j).toNatClampNeg
def ADX (σ : MI) : Prop := ∀ j, j < nJ (vx σ) → σ 23 j = dv (adx σ j) ∧ adx σ j ≤ 4
theorem adx_of {σ : MI} {j x : Nat} (hx : x ≤ 4) (h : σ 23 j = dv x) : adx σ j = x := by
  unfold adx
  rw [h]
  unfold dv
  by_cases e : x = 4
  · rw [if_pos e, if_pos rfl, e]
  · rw [if_neg e, if_neg (by rw [z_eq, z_nI (by omega), zc_m1]; omega), nI_clamp (by omega)]
theorem dv_eq {x p : Nat} (hx : x ≤ 4) (hp : p < 4) : dv x = nI p ↔ x = p := by
  unfold dv
  by_cases e : x = 4
  · rw [if_pos e, z_eq, z_nI (by omega), zc_m1]; omega
  · rw [if_neg e, nI_eq (by omega) (by omega)]
theorem dv_m1 {x : Nat} (hx : x ≤ 4) : dv x = -1 ↔ x = 4 := by
  unfold dv
  by_cases e : x = 4
  · rw [if_pos e]; simp [e]
  · rw [if_neg e, z_eq, z_nI (by omega), zc_m1]; omega
/-- a sum over people -/
def smP (f : Nat → Nat) : Nat → Nat
  | 0 => 0
  | p + 1 => smP f p + f p
/-- tugs: the pull of a set, the better of two sets, the best -/
def plo (d : Dt) (S : Nat) : Nat → Nat
  | 0 => 0
  | t + 1 => plo d S t + (if S.testBit t then (d 16 t).toNat else 0)
theorem plo_le {d : Dt} (hd : Vd d) (S : Nat) : ∀ t, t ≤ 6 → plo d S t ≤ 100 * t := by
  intro t
  induction t with
  | zero => intro _; exact Nat.le_refl 0
  | succ t ih =>
    intro ht
    have := ih (by omega)
    have := hd.tug (t := t) (by omega)
    unfold plo
    split <;> omega
def ahd (s o : Nat) : Prop := ¬ ((nI s &&& (nI s ^^^ nI o)) &&& (-(nI s ^^^ nI o))) = 0
def btr (d : Dt) (s o : Nat) : Prop :=
  pcn s < pcn o ∨ (pcn s = pcn o ∧ (plo d s (nT d) < plo d o (nT d) ∨ (plo d s (nT d) = plo d o (nT d) ∧ ahd s o)))
/-- f is the best of the sets below m that have none of the used tugs, and the pull -/
def bsf (d : Dt) (used need : Nat) : Nat → Nat → Prop
  | 0, f => f = 0
  | m + 1, f => ∃ g, bsf d used need m g ∧ ((m ≠ 0 ∧ m &&& used = 0 ∧ need ≤ plo d m (nT d) ∧ (g = 0 ∨ btr d m g) ∧ f = m) ∨ (¬ (m ≠ 0 ∧ m &&& used = 0 ∧ need ≤ plo d m (nT d) ∧ (g = 0 ∨ btr d m g)) ∧ f = g))
theorem bsf_uniq {d : Dt} {used need : Nat} : ∀ m f g, bsf d used need m f → bsf d used need m g → f = g := by
  intro m
  induction m with
  | zero => intro f g h1 h2; exact h1.trans h2.symm
  | succ m ih =>
    intro f g ⟨a, ha, h1⟩ ⟨b, hb, h2⟩
    have := ih a b ha hb
    subst this
    rcases h1 with ⟨x1, x2, x3, x4, x5⟩ | ⟨x, x5⟩ <;> rcases h2 with ⟨y1, y2, y3, y4, y5⟩ | ⟨y, y5⟩
    · exact x5.trans y5.symm
    · exact absurd ⟨x1, x2, x3, x4⟩ y
    · exact absurd ⟨y1, y2, y3, y4⟩ x
    · exact x5.trans y5.symm
theorem bsf_lt {d : Dt} {used need : Nat} : ∀ m f, bsf d used need m f → f = 0 ∨ f < m := by
  intro m
  induction m with
  | zero => intro f h; exact Or.inl h
  | succ m ih =>
    intro f ⟨g, hg, h⟩
    have := ih g hg
    rcases h with ⟨_, _, _, _, e⟩ | ⟨_, e⟩ <;> omega
/-- what the jobs below i that overlap j have, by t -/
def bsy (d : Dt) (t : Nat → Nat) (j : Nat) : Nat → Nat
  | 0 => 0
  | i + 1 => if d 11 i < d 12 j ∧ d 11 j < d 12 i then bsy d t j i ||| t i else bsy d t j i
theorem bsy_congr {d : Dt} {t t' : Nat → Nat} {j n : Nat} (h : ∀ i, i < n → t i = t' i) : bsy d t j n = bsy d t' j n := by
  induction n with
  | zero => rfl
  | succ n ih => unfold bsy; rw [ih (fun i hi => h i (by omega)), h n (by omega)]
theorem bsy_lt {d : Dt} {t : Nat → Nat} {j n m : Nat} (h : ∀ i, i < n → t i < 2 ^ m) : bsy d t j n < 2 ^ m := by
  induction n with
  | zero => exact Nat.two_pow_pos m
  | succ n ih =>
    unfold bsy
    split
    · exact Nat.or_lt_two_pow (ih (fun i hi => h i (by omega))) (h n (by omega))
    · exact ih (fun i hi => h i (by omega))
/-- the tugs behind the first k jobs of the order -/
def tgs (d : Dt) (o a : Nat → Nat) : Nat → (Nat → Nat) → Prop
  | 0, t => ∀ j, j < nJ d → t j = 0
  | k + 1, t => ∃ u, tgs d o a k u ∧ ((a (o k) ≠ 4 ∧ 0 < d 10 (o k) ∧ (∀ j, j < nJ d → j ≠ o k → t j = u j) ∧ bsf d (bsy d u (o k) (nJ d)) (d 10 (o k)).toNat (2 ^ nT d) (t (o k))) ∨ (¬ (a (o k) ≠ 4 ∧ 0 < d 10 (o k)) ∧ ∀ j, j < nJ d → t j = u j))
theorem tgs_uniq {d : Dt} {o a : Nat → Nat} : ∀ k t t', tgs d o a k t → tgs d o a k t' → ∀ j, j < nJ d → t j = t' j := by
  intro k
  induction k with
  | zero => intro t t' h1 h2 j hj; rw [h1 j hj, h2 j hj]
  | succ k ih =>
    intro t t' ⟨u, hu, h1⟩ ⟨v, hv, h2⟩ j hj
    have e := ih u v hu hv
    rcases h1 with ⟨x1, x2, x3, x4⟩ | ⟨x1, x2⟩ <;> rcases h2 with ⟨y1, y2, y3, y4⟩ | ⟨y1, y2⟩
    · by_cases z : j = o k
      · subst z
        rw [bsy_congr e] at x4
        exact bsf_uniq _ _ _ x4 y4
      · rw [x3 j hj z, y3 j hj z, e j hj]
    · exact absurd ⟨x1, x2⟩ y1
    · exact absurd ⟨y1, y2⟩ x1
    · rw [x2 j hj, y2 j hj, e j hj]
theorem tgs_congr {d : Dt} {o a a' : Nat → Nat} (n : Nat) (h : ∀ k, k < n → a (o k) = a' (o k)) : ∀ k t, k ≤ n → tgs d o a k t → tgs d o a' k t := by
  intro k
  induction k with
  | zero => intro t _ h; exact h
  | succ k ih =>
    intro t hk ⟨u, hu, h1⟩
    refine ⟨u, ih u (by omega) hu, ?_⟩
    rw [← h k (by omega)]
    exact h1
theorem tgs_lt {d : Dt} {o a : Nat → Nat} : ∀ k t, tgs d o a k t → ∀ j, j < nJ d → t j < 2 ^ nT d := by
  intro k
  induction k with
  | zero => intro t h j hj; rw [h j hj]; exact Nat.two_pow_pos _
  | succ k ih =>
    intro t ⟨u, hu, h1⟩ j hj
    have := ih u hu j hj
    rcases h1 with ⟨x1, x2, x3, x4⟩ | ⟨x1, x2⟩
    · by_cases z : j = o k
      · subst z
        rcases bsf_lt _ _ x4 with e | e
        · rw [e]; exact Nat.two_pow_pos _
        · exact e
      · rw [x3 j hj z]; exact this
    · rw [x2 j hj]; exact this

