def rb (p : Prop) (r : Int32) : Prop := (r = 1 ∧ p) ∨ (r = 0 ∧ ¬ p)
theorem rb_01 {p : Prop} {r : Int32} (h : rb p r) : r = 0 ∨ r = 1 := h.elim (fun z => Or.inr z.1) (fun z => Or.inl z.1)
theorem rb_imp {p q : Prop} {r : Int32} (h : rb p r) (e : p ↔ q) : rb q r := by
  unfold rb at h ⊢; rw [← e]; exact h
theorem rb_0 {p : Prop} {r : Int32} (h : rb p r) (e : r = 0) : ¬ p := by
  rcases h with ⟨z, _⟩ | ⟨_, z⟩
  · rw [e] at z; exact absurd z (by decide)
  · exact z
theorem rb_1 {p : Prop} {r : Int32} (h : rb p r) (e : ¬ r = 0) : p := by
  rcases h with ⟨_, z⟩ | ⟨z, _⟩
  · exact z
  · exact absurd z e
theorem zc_0 : (0 : Int32).toInt = 0 := rfl
theorem zc_1 : (1 : Int32).toInt = 1 := rfl
theorem zc_2 : (2 : Int32).toInt = 2 := rfl
theorem zc_3 : (3 : Int32).toInt = 3 := rfl
theorem zc_4 : (4 : Int32).toInt = 4 := rfl
theorem zc_5 : (5 : Int32).toInt = 5 := rfl
theorem zc_6 : (6 : Int32).toInt = 6 := rfl
theorem zc_7 : (7 : Int32).toInt = 7 := rfl
theorem zc_10 : (10 : Int32).toInt = 10 := rfl
theorem zc_100 : (100 : Int32).toInt = 100 := rfl
theorem zc_300 : (300 : Int32).toInt = 300 := rfl
theorem zc_360 : (360 : Int32).toInt = 360 := rfl
theorem zc_600 : (600 : Int32).toInt = 600 := rfl
theorem zc_2880 : (2880 : Int32).toInt = 2880 := rfl
theorem zc_1000000 : (1000000 : Int32).toInt = 1000000 := rfl
theorem zc_m1 : ((-1) : Int32).toInt = -1 := rfl
theorem rb_t {p : Prop} (h : p) : rb p 1 := Or.inl ⟨rfl, h⟩
theorem rb_f {p : Prop} (h : ¬ p) : rb p 0 := Or.inr ⟨rfl, h⟩

