/-! for constructors -/
theorem gk_K2 {D : va_G} {cl : List vw_C} {tys : List (ClassId × FieldType)} {U : State} {c c' : ClassId} {ty : FieldType} (h : va_K D cl tys U) (i j : Nat) (hi : tys[i]? = some (c, ty)) (hj : tys[j]? = some (c', ty)) (ht : ty = .int ∨ ty = .long) : c = c' := by
  have h1 := (h.2 i _ hi).2
  have h2 := (h.2 j _ hj).2
  rcases ht with rfl | rfl
  · have h1 : U.vm.findClass _ = some c := h1
    have h2 : U.vm.findClass _ = some c' := h2
    exact Option.some.inj (h1.symm.trans h2)
  · have h1 : U.vm.findClass _ = some c := h1
    have h2 : U.vm.findClass _ = some c' := h2
    exact Option.some.inj (h1.symm.trans h2)
/-- the travel at first, as far as it is told -/
def W25p (i : Nat) : Nat → Int32 := fun k => if k < i then (if k / 5 = k % 5 then 0 else 10) else 0
def W25 : Nat → Int32 := fun k => if k < 25 then (if k / 5 = k % 5 then 0 else 10) else 0
theorem W25p_0 : W25p 0 = fun _ => 0 := by funext k; simp [W25p]
theorem W25p_25 : W25p 25 = W25 := rfl
theorem W25p_m (i : Nat) (v : Int32) (hi : i < 25) (hv : v = if i / 5 = i % 5 then 0 else 10) : upd (W25p i) i v = W25p (i + 1) := by
  funext k
  unfold upd W25p
  by_cases z : k = i
  · subst z; rw [if_pos rfl, if_pos (by omega), hv]
  · rw [if_neg z]
    by_cases y : k < i
    · rw [if_pos y, if_pos (show k < i + 1 by omega)]
    · rw [if_neg y, if_neg (by omega)]
theorem W25p_s (a b : Nat) (v : Int32) (hb : b < 5) (hv : v = if a = b then 0 else 10) : upd (W25p (5 * a + b)) (5 * a + b) v = W25p (5 * a + (b + 1)) := by
  funext k
  unfold upd W25p
  by_cases z : k = 5 * a + b
  · subst z
    rw [if_pos rfl, if_pos (by omega), hv, show (5 * a + b) / 5 = a by omega, show (5 * a + b) % 5 = b by omega]
  · rw [if_neg z]
    by_cases y : k < 5 * a + b
    · rw [if_pos y, if_pos (show k < 5 * a + (b + 1) by omega)]
    · rw [if_neg y, if_neg (by omega)]

