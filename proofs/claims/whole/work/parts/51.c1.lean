set_option maxHeartbeats 4000000 in
set_option maxRecDepth 100000 in
theorem c_People_init (l : Launch) (D : va_G) (ci cl : ClassId) (h0 sz : Nat) : Met l y_People_init w_People_init rm_People_init (va_Pc [.ref h0] (fun U => U.heap.size = sz ∧ va_P D classes [(h0, .inr (1, [.int 0, .null, .null, .null, .null, .null, .null]))] U.heap ∧ va_K D classes (xt ci cl) U ∧ va_D (fun _ => True) [(h0, .inr (1, [.int 0, .null, .null, .null, .null, .null, .null]))])) (va_Qv (fun (_ : Unit) => True) (fun (_ : Unit) (t : State) => ∃ (e1 e2 e3 e4 e5 e6 : Nat), va_P D classes [(h0, .inr (1, [.int 0, .ref e1, .ref e2, .ref e3, .ref e4, .ref e5, .ref e6])), (e1, .inl (ci, 4, .inl (fun _ => 0))), (e2, .inl (ci, 4, .inl (fun _ => 0))), (e3, .inl (ci, 4, .inl (fun _ => 0))), (e4, .inl (ci, 4, .inl (fun _ => 0))), (e5, .inl (ci, 4, .inl (fun _ => 0))), (e6, .inl (ci, 4, .inl (fun _ => 0)))] t.heap ∧ va_K D classes (xt ci cl) t ∧ va_D (va_A [(h0, .inr (1, [.int 0, .null, .null, .null, .null, .null, .null]))] sz) [(h0, .inr (1, [.int 0, .ref e1, .ref e2, .ref e3, .ref e4, .ref e5, .ref e6])), (e1, .inl (ci, 4, .inl (fun _ => 0))), (e2, .inl (ci, 4, .inl (fun _ => 0))), (e3, .inl (ci, 4, .inl (fun _ => 0))), (e4, .inl (ci, 4, .inl (fun _ => 0))), (e5, .inl (ci, 4, .inl (fun _ => 0))), (e6, .inl (ci, 4, .inl (fun _ => 0)))]) (va_A [(h0, .inr (1, [.int 0, .null, .null, .null, .null, .null, .null]))] sz)) 6 24 (va_A [(h0, .inr (1, [.int 0, .null, .null, .null, .null, .null, .null]))] sz) := by
  refine Met.ofW (cc := b_People_init) (maxL := 1) (ret := none) (by decide) rfl ?_
  intro p e s m args below meth c s₁ B hml hv
  obtain ⟨rfl, hsz, hP, hK, hD0⟩ := hv
  have hx := B.exec
  have hb := B.bytes
  have hr := B.returns
  have hts0 := atoms_spec (ws := w_People_init) B.pre
  have hts : ∀ w ∈ TKB, w.before _ s = true := fun w hw => hts0 w (List.mem_cons_of_mem _ hw)
  have hown : s.vm.findClass R_People = some m.cls := findClass_of_methodNamed B.named
  have hlocks := B.notSynchronized
  have hin : meth.name = "<init>" := (name_of_methodNamed B.named B.method).1
  subst hsz
  have hD := hD0.self (sz := s.heap.size)
  generalize hAe : va_A [(h0, .inr (1, [.int 0, .null, .null, .null, .null, .null, .null]))] s.heap.size = A at hD ⊢
  have hA : ∀ q : Nat, s.heap.size ≤ q → A q := fun q h => by rw [← hAe]; exact Or.inr h
  have hS : va_S A s.heap s.heap [] := va_S.rf
  have hP : va_P D classes [(h0, .inr (1, [.int 0, .null, .null, .null, .null, .null, .null]))] s.heap := hP
  have hl := lv_entry ([.ref h0]) (n := 1) (Nat.le_of_ble_eq_true rfl)
  rw [lg_entry_eq]
  generalize (lg_sl ([.ref h0]) ++ List.replicate (1 - (lg_sl ([.ref h0])).length) Slot.unset).toArray = ls at hl ⊢
  have hl : lv_has ls 1 [(0, .ref h0)] := hl
  refine lv_aload_n hx hb d_People_init_0 rfl (lv_at hl 0 rfl) ?_
  refine W.objInit hx hb hown (hts _ kw_0) (hts _ kw_1) (hts _ kw_2) rfl (by rw [hml]; exact hl.1) rfl d_People_init_1 (Nat.le_of_ble_eq_true rfl) (Nat.le_of_ble_eq_true rfl) ?_
  refine W.eq (g2 := F0 m 4 ls []) rfl ?_
  refine lv_aload_n hx hb d_People_init_4 rfl (lv_at hl 0 rfl) ?_
  refine lv_iconst (v := 0) hx hb d_People_init_5 (by decide) ?_
  refine va_put (D := D) (ci := 1) (v := .int 0) (ty := .int) (fs := [.int 0, .null, .null, .null, .null, .null, .null]) (C := R_People) (T := F_People) (N := 7) hx hb hts ik_People ty_People ty_People_ok nn_People hown hK hP hD hS 0 rfl rfl 0 (by decide) (hts _ kw_3) (fun _ h9 => h9) rfl (by decide +kernel) rfl rfl (Nat.le_of_ble_eq_true rfl) d_People_init_6 (fun H locs hP hD hS => ?_)
  have hP : va_P D classes [(h0, .inr (1, [.int 0, .null, .null, .null, .null, .null, .null]))] H := hP
  have hD : va_D A [(h0, .inr (1, [.int 0, .null, .null, .null, .null, .null, .null]))] := hD
  refine lv_aload_n hx hb d_People_init_9 rfl (lv_at hl 0 rfl) ?_
  refine lv_iconst (v := 4) hx hb d_People_init_10 (by decide) ?_
  refine va_newa (atype := .int) (N' := 4) (a0 := (4, .inl (fun _ => 0))) (ty := .int) (n := 4) hx hb (hts _ kw_4) rfl hK hP hD hS hA (fun _ => rfl) (by decide) (by decide) (by decide) (Nat.le_of_ble_eq_true rfl) (Nat.le_of_ble_eq_true rfl) d_People_init_11 (fun q11 c11 H hK hP hD hS => ?_)
  obtain rfl := gk_K2 hK 0 2 rfl rfl (by decide)
  have hK : va_K D classes (xt ci cl) s := hK.sub [0, 1] rfl
  have hP : va_P D classes [(h0, .inr (1, [.int 0, .null, .null, .null, .null, .null, .null])), (q11, .inl (ci, 4, .inl (fun _ => 0)))] H := hP
  have hD : va_D A [(h0, .inr (1, [.int 0, .null, .null, .null, .null, .null, .null])), (q11, .inl (ci, 4, .inl (fun _ => 0)))] := hD
  refine W.widen (k := 1) (n := 4) (by omega) (by omega) ?_
  refine va_putF (D := D) (ci := 1) (v := .ref q11) (ty := .array .int) (fs := [.int 0, .null, .null, .null, .null, .null, .null]) (C := R_People) (T := F_People) (N := 7) hx hb hts ik_People ty_People ty_People_ok nn_People hown hK hP hD hS 0 rfl rfl 1 (by decide) (hts _ kw_5) (fun _ h9 => h9) rfl hin rfl (by decide +kernel) rfl rfl (Nat.le_of_ble_eq_true rfl) d_People_init_13 (fun H locs hP hD hS => ?_)
  have hP : va_P D classes [(h0, .inr (1, [.int 0, .ref q11, .null, .null, .null, .null, .null])), (q11, .inl (ci, 4, .inl (fun _ => 0)))] H := hP
  have hD : va_D A [(h0, .inr (1, [.int 0, .ref q11, .null, .null, .null, .null, .null])), (q11, .inl (ci, 4, .inl (fun _ => 0)))] := hD
  refine lv_aload_n hx hb d_People_init_16 rfl (lv_at hl 0 rfl) ?_
  refine lv_iconst (v := 4) hx hb d_People_init_17 (by decide) ?_
  refine va_newa (atype := .int) (N' := 4) (a0 := (4, .inl (fun _ => 0))) (ty := .int) (n := 4) hx hb (hts _ kw_4) rfl hK hP hD hS hA (fun _ => rfl) (by decide) (by decide) (by decide) (Nat.le_of_ble_eq_true rfl) (Nat.le_of_ble_eq_true rfl) d_People_init_18 (fun q18 c18 H hK hP hD hS => ?_)
  obtain rfl := gk_K2 hK 0 2 rfl rfl (by decide)
  have hK : va_K D classes (xt ci cl) s := hK.sub [0, 1] rfl
  have hP : va_P D classes [(h0, .inr (1, [.int 0, .ref q11, .null, .null, .null, .null, .null])), (q11, .inl (ci, 4, .inl (fun _ => 0))), (q18, .inl (ci, 4, .inl (fun _ => 0)))] H := hP
  have hD : va_D A [(h0, .inr (1, [.int 0, .ref q11, .null, .null, .null, .null, .null])), (q11, .inl (ci, 4, .inl (fun _ => 0))), (q18, .inl (ci, 4, .inl (fun _ => 0)))] := hD
  refine W.widen (k := 2) (n := 8) (by omega) (by omega) ?_
  refine va_putF (D := D) (ci := 1) (v := .ref q18) (ty := .array .int) (fs := [.int 0, .ref q11, .null, .null, .null, .null, .null]) (C := R_People) (T := F_People) (N := 7) hx hb hts ik_People ty_People ty_People_ok nn_People hown hK hP hD hS 0 rfl rfl 2 (by decide) (hts _ kw_6) (fun _ h9 => h9) rfl hin rfl (by decide +kernel) rfl rfl (Nat.le_of_ble_eq_true rfl) d_People_init_20 (fun H locs hP hD hS => ?_)
  have hP : va_P D classes [(h0, .inr (1, [.int 0, .ref q11, .ref q18, .null, .null, .null, .null])), (q11, .inl (ci, 4, .inl (fun _ => 0))), (q18, .inl (ci, 4, .inl (fun _ => 0)))] H := hP
  have hD : va_D A [(h0, .inr (1, [.int 0, .ref q11, .ref q18, .null, .null, .null, .null])), (q11, .inl (ci, 4, .inl (fun _ => 0))), (q18, .inl (ci, 4, .inl (fun _ => 0)))] := hD
  refine lv_aload_n hx hb d_People_init_23 rfl (lv_at hl 0 rfl) ?_
  refine lv_iconst (v := 4) hx hb d_People_init_24 (by decide) ?_
  refine va_newa (atype := .int) (N' := 4) (a0 := (4, .inl (fun _ => 0))) (ty := .int) (n := 4) hx hb (hts _ kw_4) rfl hK hP hD hS hA (fun _ => rfl) (by decide) (by decide) (by decide) (Nat.le_of_ble_eq_true rfl) (Nat.le_of_ble_eq_true rfl) d_People_init_25 (fun q25 c25 H hK hP hD hS => ?_)
  obtain rfl := gk_K2 hK 0 2 rfl rfl (by decide)
  have hK : va_K D classes (xt ci cl) s := hK.sub [0, 1] rfl
  have hP : va_P D classes [(h0, .inr (1, [.int 0, .ref q11, .ref q18, .null, .null, .null, .null])), (q11, .inl (ci, 4, .inl (fun _ => 0))), (q18, .inl (ci, 4, .inl (fun _ => 0))), (q25, .inl (ci, 4, .inl (fun _ => 0)))] H := hP
  have hD : va_D A [(h0, .inr (1, [.int 0, .ref q11, .ref q18, .null, .null, .null, .null])), (q11, .inl (ci, 4, .inl (fun _ => 0))), (q18, .inl (ci, 4, .inl (fun _ => 0))), (q25, .inl (ci, 4, .inl (fun _ => 0)))] := hD
  refine W.widen (k := 3) (n := 12) (by omega) (by omega) ?_
  refine va_putF (D := D) (ci := 1) (v := .ref q25) (ty := .array .int) (fs := [.int 0, .ref q11, .ref q18, .null, .null, .null, .null]) (C := R_People) (T := F_People) (N := 7) hx hb hts ik_People ty_People ty_People_ok nn_People hown hK hP hD hS 0 rfl rfl 3 (by decide) (hts _ kw_7) (fun _ h9 => h9) rfl hin rfl (by decide +kernel) rfl rfl (Nat.le_of_ble_eq_true rfl) d_People_init_27 (fun H locs hP hD hS => ?_)
  have hP : va_P D classes [(h0, .inr (1, [.int 0, .ref q11, .ref q18, .ref q25, .null, .null, .null])), (q11, .inl (ci, 4, .inl (fun _ => 0))), (q18, .inl (ci, 4, .inl (fun _ => 0))), (q25, .inl (ci, 4, .inl (fun _ => 0)))] H := hP
  have hD : va_D A [(h0, .inr (1, [.int 0, .ref q11, .ref q18, .ref q25, .null, .null, .null])), (q11, .inl (ci, 4, .inl (fun _ => 0))), (q18, .inl (ci, 4, .inl (fun _ => 0))), (q25, .inl (ci, 4, .inl (fun _ => 0)))] := hD
  refine lv_aload_n hx hb d_People_init_30 rfl (lv_at hl 0 rfl) ?_
  refine lv_iconst (v := 4) hx hb d_People_init_31 (by decide) ?_
  refine va_newa (atype := .int) (N' := 4) (a0 := (4, .inl (fun _ => 0))) (ty := .int) (n := 4) hx hb (hts _ kw_4) rfl hK hP hD hS hA (fun _ => rfl) (by decide) (by decide) (by decide) (Nat.le_of_ble_eq_true rfl) (Nat.le_of_ble_eq_true rfl) d_People_init_32 (fun q32 c32 H hK hP hD hS => ?_)
  obtain rfl := gk_K2 hK 0 2 rfl rfl (by decide)
  have hK : va_K D classes (xt ci cl) s := hK.sub [0, 1] rfl
  have hP : va_P D classes [(h0, .inr (1, [.int 0, .ref q11, .ref q18, .ref q25, .null, .null, .null])), (q11, .inl (ci, 4, .inl (fun _ => 0))), (q18, .inl (ci, 4, .inl (fun _ => 0))), (q25, .inl (ci, 4, .inl (fun _ => 0))), (q32, .inl (ci, 4, .inl (fun _ => 0)))] H := hP
  have hD : va_D A [(h0, .inr (1, [.int 0, .ref q11, .ref q18, .ref q25, .null, .null, .null])), (q11, .inl (ci, 4, .inl (fun _ => 0))), (q18, .inl (ci, 4, .inl (fun _ => 0))), (q25, .inl (ci, 4, .inl (fun _ => 0))), (q32, .inl (ci, 4, .inl (fun _ => 0)))] := hD
  refine W.widen (k := 4) (n := 16) (by omega) (by omega) ?_
  refine va_putF (D := D) (ci := 1) (v := .ref q32) (ty := .array .int) (fs := [.int 0, .ref q11, .ref q18, .ref q25, .null, .null, .null]) (C := R_People) (T := F_People) (N := 7) hx hb hts ik_People ty_People ty_People_ok nn_People hown hK hP hD hS 0 rfl rfl 4 (by decide) (hts _ kw_8) (fun _ h9 => h9) rfl hin rfl (by decide +kernel) rfl rfl (Nat.le_of_ble_eq_true rfl) d_People_init_34 (fun H locs hP hD hS => ?_)
  have hP : va_P D classes [(h0, .inr (1, [.int 0, .ref q11, .ref q18, .ref q25, .ref q32, .null, .null])), (q11, .inl (ci, 4, .inl (fun _ => 0))), (q18, .inl (ci, 4, .inl (fun _ => 0))), (q25, .inl (ci, 4, .inl (fun _ => 0))), (q32, .inl (ci, 4, .inl (fun _ => 0)))] H := hP
  have hD : va_D A [(h0, .inr (1, [.int 0, .ref q11, .ref q18, .ref q25, .ref q32, .null, .null])), (q11, .inl (ci, 4, .inl (fun _ => 0))), (q18, .inl (ci, 4, .inl (fun _ => 0))), (q25, .inl (ci, 4, .inl (fun _ => 0))), (q32, .inl (ci, 4, .inl (fun _ => 0)))] := hD
  refine lv_aload_n hx hb d_People_init_37 rfl (lv_at hl 0 rfl) ?_
  refine lv_iconst (v := 4) hx hb d_People_init_38 (by decide) ?_
  refine va_newa (atype := .int) (N' := 4) (a0 := (4, .inl (fun _ => 0))) (ty := .int) (n := 4) hx hb (hts _ kw_4) rfl hK hP hD hS hA (fun _ => rfl) (by decide) (by decide) (by decide) (Nat.le_of_ble_eq_true rfl) (Nat.le_of_ble_eq_true rfl) d_People_init_39 (fun q39 c39 H hK hP hD hS => ?_)
  obtain rfl := gk_K2 hK 0 2 rfl rfl (by decide)
  have hK : va_K D classes (xt ci cl) s := hK.sub [0, 1] rfl
  have hP : va_P D classes [(h0, .inr (1, [.int 0, .ref q11, .ref q18, .ref q25, .ref q32, .null, .null])), (q11, .inl (ci, 4, .inl (fun _ => 0))), (q18, .inl (ci, 4, .inl (fun _ => 0))), (q25, .inl (ci, 4, .inl (fun _ => 0))), (q32, .inl (ci, 4, .inl (fun _ => 0))), (q39, .inl (ci, 4, .inl (fun _ => 0)))] H := hP
  have hD : va_D A [(h0, .inr (1, [.int 0, .ref q11, .ref q18, .ref q25, .ref q32, .null, .null])), (q11, .inl (ci, 4, .inl (fun _ => 0))), (q18, .inl (ci, 4, .inl (fun _ => 0))), (q25, .inl (ci, 4, .inl (fun _ => 0))), (q32, .inl (ci, 4, .inl (fun _ => 0))), (q39, .inl (ci, 4, .inl (fun _ => 0)))] := hD
  refine W.widen (k := 5) (n := 20) (by omega) (by omega) ?_
  refine va_putF (D := D) (ci := 1) (v := .ref q39) (ty := .array .int) (fs := [.int 0, .ref q11, .ref q18, .ref q25, .ref q32, .null, .null]) (C := R_People) (T := F_People) (N := 7) hx hb hts ik_People ty_People ty_People_ok nn_People hown hK hP hD hS 0 rfl rfl 5 (by decide) (hts _ kw_9) (fun _ h9 => h9) rfl hin rfl (by decide +kernel) rfl rfl (Nat.le_of_ble_eq_true rfl) d_People_init_41 (fun H locs hP hD hS => ?_)
  have hP : va_P D classes [(h0, .inr (1, [.int 0, .ref q11, .ref q18, .ref q25, .ref q32, .ref q39, .null])), (q11, .inl (ci, 4, .inl (fun _ => 0))), (q18, .inl (ci, 4, .inl (fun _ => 0))), (q25, .inl (ci, 4, .inl (fun _ => 0))), (q32, .inl (ci, 4, .inl (fun _ => 0))), (q39, .inl (ci, 4, .inl (fun _ => 0)))] H := hP
  have hD : va_D A [(h0, .inr (1, [.int 0, .ref q11, .ref q18, .ref q25, .ref q32, .ref q39, .null])), (q11, .inl (ci, 4, .inl (fun _ => 0))), (q18, .inl (ci, 4, .inl (fun _ => 0))), (q25, .inl (ci, 4, .inl (fun _ => 0))), (q32, .inl (ci, 4, .inl (fun _ => 0))), (q39, .inl (ci, 4, .inl (fun _ => 0)))] := hD
  refine lv_aload_n hx hb d_People_init_44 rfl (lv_at hl 0 rfl) ?_
  refine lv_iconst (v := 4) hx hb d_People_init_45 (by decide) ?_
  refine va_newa (atype := .int) (N' := 4) (a0 := (4, .inl (fun _ => 0))) (ty := .int) (n := 4) hx hb (hts _ kw_4) rfl hK hP hD hS hA (fun _ => rfl) (by decide) (by decide) (by decide) (Nat.le_of_ble_eq_true rfl) (Nat.le_of_ble_eq_true rfl) d_People_init_46 (fun q46 c46 H hK hP hD hS => ?_)
  obtain rfl := gk_K2 hK 0 2 rfl rfl (by decide)
  have hK : va_K D classes (xt ci cl) s := hK.sub [0, 1] rfl
  have hP : va_P D classes [(h0, .inr (1, [.int 0, .ref q11, .ref q18, .ref q25, .ref q32, .ref q39, .null])), (q11, .inl (ci, 4, .inl (fun _ => 0))), (q18, .inl (ci, 4, .inl (fun _ => 0))), (q25, .inl (ci, 4, .inl (fun _ => 0))), (q32, .inl (ci, 4, .inl (fun _ => 0))), (q39, .inl (ci, 4, .inl (fun _ => 0))), (q46, .inl (ci, 4, .inl (fun _ => 0)))] H := hP
  have hD : va_D A [(h0, .inr (1, [.int 0, .ref q11, .ref q18, .ref q25, .ref q32, .ref q39, .null])), (q11, .inl (ci, 4, .inl (fun _ => 0))), (q18, .inl (ci, 4, .inl (fun _ => 0))), (q25, .inl (ci, 4, .inl (fun _ => 0))), (q32, .inl (ci, 4, .inl (fun _ => 0))), (q39, .inl (ci, 4, .inl (fun _ => 0))), (q46, .inl (ci, 4, .inl (fun _ => 0)))] := hD
  refine W.widen (k := 6) (n := 24) (by omega) (by omega) ?_
  refine va_putF (D := D) (ci := 1) (v := .ref q46) (ty := .array .int) (fs := [.int 0, .ref q11, .ref q18, .ref q25, .ref q32, .ref q39, .null]) (C := R_People) (T := F_People) (N := 7) hx hb hts ik_People ty_People ty_People_ok nn_People hown hK hP hD hS 0 rfl rfl 6 (by decide) (hts _ kw_10) (fun _ h9 => h9) rfl hin rfl (by decide +kernel) rfl rfl (Nat.le_of_ble_eq_true rfl) d_People_init_48 (fun H locs hP hD hS => ?_)
  have hP : va_P D classes [(h0, .inr (1, [.int 0, .ref q11, .ref q18, .ref q25, .ref q32, .ref q39, .ref q46])), (q11, .inl (ci, 4, .inl (fun _ => 0))), (q18, .inl (ci, 4, .inl (fun _ => 0))), (q25, .inl (ci, 4, .inl (fun _ => 0))), (q32, .inl (ci, 4, .inl (fun _ => 0))), (q39, .inl (ci, 4, .inl (fun _ => 0))), (q46, .inl (ci, 4, .inl (fun _ => 0)))] H := hP
  have hD : va_D A [(h0, .inr (1, [.int 0, .ref q11, .ref q18, .ref q25, .ref q32, .ref q39, .ref q46])), (q11, .inl (ci, 4, .inl (fun _ => 0))), (q18, .inl (ci, 4, .inl (fun _ => 0))), (q25, .inl (ci, 4, .inl (fun _ => 0))), (q32, .inl (ci, 4, .inl (fun _ => 0))), (q39, .inl (ci, 4, .inl (fun _ => 0))), (q46, .inl (ci, 4, .inl (fun _ => 0)))] := hD
  exact W.vret hx hb hr (fun t ht hW => ⟨⟨(), rfl, trivial, q11, q18, q25, q32, q39, q46, by rw [ht]; exact hP, va_K.moved hW.alike hK, hD⟩, hS.F ht⟩) hS.2.2 d_People_init_51 hlocks
set_option maxHeartbeats 4000000 in
set_option maxRecDepth 100000 in
theorem c_Jobs_init (l : Launch) (D : va_G) (ci cl : ClassId) (h0 sz : Nat) : Met l y_Jobs_init w_Jobs_init rm_Jobs_init (va_Pc [.ref h0] (fun U => U.heap.size = sz ∧ va_P D classes [(h0, .inr (0, [.int 0, .null, .null, .null, .null, .null, .null]))] U.heap ∧ va_K D classes (xt ci cl) U ∧ va_D (fun _ => True) [(h0, .inr (0, [.int 0, .null, .null, .null, .null, .null, .null]))])) (va_Qv (fun (_ : Unit) => True) (fun (_ : Unit) (t : State) => ∃ (e1 e2 e3 e4 e5 e6 : Nat), va_P D classes [(h0, .inr (0, [.int 0, .ref e1, .ref e2, .ref e3, .ref e4, .ref e5, .ref e6])), (e1, .inl (ci, 7, .inl (fun _ => 0))), (e2, .inl (ci, 7, .inl (fun _ => 0))), (e3, .inl (ci, 7, .inl (fun _ => 0))), (e4, .inl (ci, 7, .inl (fun _ => 0))), (e5, .inl (ci, 7, .inl (fun _ => 0))), (e6, .inl (ci, 7, .inl (fun _ => 0)))] t.heap ∧ va_K D classes (xt ci cl) t ∧ va_D (va_A [(h0, .inr (0, [.int 0, .null, .null, .null, .null, .null, .null]))] sz) [(h0, .inr (0, [.int 0, .ref e1, .ref e2, .ref e3, .ref e4, .ref e5, .ref e6])), (e1, .inl (ci, 7, .inl (fun _ => 0))), (e2, .inl (ci, 7, .inl (fun _ => 0))), (e3, .inl (ci, 7, .inl (fun _ => 0))), (e4, .inl (ci, 7, .inl (fun _ => 0))), (e5, .inl (ci, 7, .inl (fun _ => 0))), (e6, .inl (ci, 7, .inl (fun _ => 0)))]) (va_A [(h0, .inr (0, [.int 0, .null, .null, .null, .null, .null, .null]))] sz)) 6 42 (va_A [(h0, .inr (0, [.int 0, .null, .null, .null, .null, .null, .null]))] sz) := by
  refine Met.ofW (cc := b_Jobs_init) (maxL := 1) (ret := none) (by decide) rfl ?_
  intro p e s m args below meth c s₁ B hml hv
  obtain ⟨rfl, hsz, hP, hK, hD0⟩ := hv
  have hx := B.exec
  have hb := B.bytes
  have hr := B.returns
  have hts0 := atoms_spec (ws := w_Jobs_init) B.pre
  have hts : ∀ w ∈ TKB, w.before _ s = true := fun w hw => hts0 w (List.mem_cons_of_mem _ hw)
  have hown : s.vm.findClass R_Jobs = some m.cls := findClass_of_methodNamed B.named
  have hlocks := B.notSynchronized
  have hin : meth.name = "<init>" := (name_of_methodNamed B.named B.method).1
  subst hsz
  have hD := hD0.self (sz := s.heap.size)
  generalize hAe : va_A [(h0, .inr (0, [.int 0, .null, .null, .null, .null, .null, .null]))] s.heap.size = A at hD ⊢
  have hA : ∀ q : Nat, s.heap.size ≤ q → A q := fun q h => by rw [← hAe]; exact Or.inr h
  have hS : va_S A s.heap s.heap [] := va_S.rf
  have hP : va_P D classes [(h0, .inr (0, [.int 0, .null, .null, .null, .null, .null, .null]))] s.heap := hP
  have hl := lv_entry ([.ref h0]) (n := 1) (Nat.le_of_ble_eq_true rfl)
  rw [lg_entry_eq]
  generalize (lg_sl ([.ref h0]) ++ List.replicate (1 - (lg_sl ([.ref h0])).length) Slot.unset).toArray = ls at hl ⊢
  have hl : lv_has ls 1 [(0, .ref h0)] := hl
  refine lv_aload_n hx hb d_Jobs_init_0 rfl (lv_at hl 0 rfl) ?_
  refine W.objInit hx hb hown (hts _ kw_11) (hts _ kw_1) (hts _ kw_2) rfl (by rw [hml]; exact hl.1) rfl d_Jobs_init_1 (Nat.le_of_ble_eq_true rfl) (Nat.le_of_ble_eq_true rfl) ?_
  refine W.eq (g2 := F0 m 4 ls []) rfl ?_
  refine lv_aload_n hx hb d_Jobs_init_4 rfl (lv_at hl 0 rfl) ?_
  refine lv_iconst (v := 0) hx hb d_Jobs_init_5 (by decide) ?_
  refine va_put (D := D) (ci := 0) (v := .int 0) (ty := .int) (fs := [.int 0, .null, .null, .null, .null, .null, .null]) (C := R_Jobs) (T := F_Jobs) (N := 7) hx hb hts ik_Jobs ty_Jobs ty_Jobs_ok nn_Jobs hown hK hP hD hS 0 rfl rfl 0 (by decide) (hts _ kw_12) (fun _ h9 => h9) rfl (by decide +kernel) rfl rfl (Nat.le_of_ble_eq_true rfl) d_Jobs_init_6 (fun H locs hP hD hS => ?_)
  have hP : va_P D classes [(h0, .inr (0, [.int 0, .null, .null, .null, .null, .null, .null]))] H := hP
  have hD : va_D A [(h0, .inr (0, [.int 0, .null, .null, .null, .null, .null, .null]))] := hD
  refine lv_aload_n hx hb d_Jobs_init_9 rfl (lv_at hl 0 rfl) ?_
  refine lv_bipush (v := 7) hx hb d_Jobs_init_10 (by decide) ?_
  refine va_newa (atype := .int) (N' := 7) (a0 := (7, .inl (fun _ => 0))) (ty := .int) (n := 7) hx hb (hts _ kw_4) rfl hK hP hD hS hA (fun _ => rfl) (by decide) (by decide) (by decide) (Nat.le_of_ble_eq_true rfl) (Nat.le_of_ble_eq_true rfl) d_Jobs_init_12 (fun q12 c12 H hK hP hD hS => ?_)
  obtain rfl := gk_K2 hK 0 2 rfl rfl (by decide)
  have hK : va_K D classes (xt ci cl) s := hK.sub [0, 1] rfl
  have hP : va_P D classes [(h0, .inr (0, [.int 0, .null, .null, .null, .null, .null, .null])), (q12, .inl (ci, 7, .inl (fun _ => 0)))] H := hP
  have hD : va_D A [(h0, .inr (0, [.int 0, .null, .null, .null, .null, .null, .null])), (q12, .inl (ci, 7, .inl (fun _ => 0)))] := hD
  refine W.widen (k := 1) (n := 7) (by omega) (by omega) ?_
  refine va_putF (D := D) (ci := 0) (v := .ref q12) (ty := .array .int) (fs := [.int 0, .null, .null, .null, .null, .null, .null]) (C := R_Jobs) (T := F_Jobs) (N := 7) hx hb hts ik_Jobs ty_Jobs ty_Jobs_ok nn_Jobs hown hK hP hD hS 0 rfl rfl 1 (by decide) (hts _ kw_13) (fun _ h9 => h9) rfl hin rfl (by decide +kernel) rfl rfl (Nat.le_of_ble_eq_true rfl) d_Jobs_init_14 (fun H locs hP hD hS => ?_)
  have hP : va_P D classes [(h0, .inr (0, [.int 0, .ref q12, .null, .null, .null, .null, .null])), (q12, .inl (ci, 7, .inl (fun _ => 0)))] H := hP
  have hD : va_D A [(h0, .inr (0, [.int 0, .ref q12, .null, .null, .null, .null, .null])), (q12, .inl (ci, 7, .inl (fun _ => 0)))] := hD
  refine lv_aload_n hx hb d_Jobs_init_17 rfl (lv_at hl 0 rfl) ?_
  refine lv_bipush (v := 7) hx hb d_Jobs_init_18 (by decide) ?_
  refine va_newa (atype := .int) (N' := 7) (a0 := (7, .inl (fun _ => 0))) (ty := .int) (n := 7) hx hb (hts _ kw_4) rfl hK hP hD hS hA (fun _ => rfl) (by decide) (by decide) (by decide) (Nat.le_of_ble_eq_true rfl) (Nat.le_of_ble_eq_true rfl) d_Jobs_init_20 (fun q20 c20 H hK hP hD hS => ?_)
  obtain rfl := gk_K2 hK 0 2 rfl rfl (by decide)
  have hK : va_K D classes (xt ci cl) s := hK.sub [0, 1] rfl
  have hP : va_P D classes [(h0, .inr (0, [.int 0, .ref q12, .null, .null, .null, .null, .null])), (q12, .inl (ci, 7, .inl (fun _ => 0))), (q20, .inl (ci, 7, .inl (fun _ => 0)))] H := hP
  have hD : va_D A [(h0, .inr (0, [.int 0, .ref q12, .null, .null, .null, .null, .null])), (q12, .inl (ci, 7, .inl (fun _ => 0))), (q20, .inl (ci, 7, .inl (fun _ => 0)))] := hD
  refine W.widen (k := 2) (n := 14) (by omega) (by omega) ?_
  refine va_putF (D := D) (ci := 0) (v := .ref q20) (ty := .array .int) (fs := [.int 0, .ref q12, .null, .null, .null, .null, .null]) (C := R_Jobs) (T := F_Jobs) (N := 7) hx hb hts ik_Jobs ty_Jobs ty_Jobs_ok nn_Jobs hown hK hP hD hS 0 rfl rfl 2 (by decide) (hts _ kw_14) (fun _ h9 => h9) rfl hin rfl (by decide +kernel) rfl rfl (Nat.le_of_ble_eq_true rfl) d_Jobs_init_22 (fun H locs hP hD hS => ?_)
  have hP : va_P D classes [(h0, .inr (0, [.int 0, .ref q12, .ref q20, .null, .null, .null, .null])), (q12, .inl (ci, 7, .inl (fun _ => 0))), (q20, .inl (ci, 7, .inl (fun _ => 0)))] H := hP
  have hD : va_D A [(h0, .inr (0, [.int 0, .ref q12, .ref q20, .null, .null, .null, .null])), (q12, .inl (ci, 7, .inl (fun _ => 0))), (q20, .inl (ci, 7, .inl (fun _ => 0)))] := hD
  refine lv_aload_n hx hb d_Jobs_init_25 rfl (lv_at hl 0 rfl) ?_
  refine lv_bipush (v := 7) hx hb d_Jobs_init_26 (by decide) ?_
  refine va_newa (atype := .int) (N' := 7) (a0 := (7, .inl (fun _ => 0))) (ty := .int) (n := 7) hx hb (hts _ kw_4) rfl hK hP hD hS hA (fun _ => rfl) (by decide) (by decide) (by decide) (Nat.le_of_ble_eq_true rfl) (Nat.le_of_ble_eq_true rfl) d_Jobs_init_28 (fun q28 c28 H hK hP hD hS => ?_)
  obtain rfl := gk_K2 hK 0 2 rfl rfl (by decide)
  have hK : va_K D classes (xt ci cl) s := hK.sub [0, 1] rfl
  have hP : va_P D classes [(h0, .inr (0, [.int 0, .ref q12, .ref q20, .null, .null, .null, .null])), (q12, .inl (ci, 7, .inl (fun _ => 0))), (q20, .inl (ci, 7, .inl (fun _ => 0))), (q28, .inl (ci, 7, .inl (fun _ => 0)))] H := hP
  have hD : va_D A [(h0, .inr (0, [.int 0, .ref q12, .ref q20, .null, .null, .null, .null])), (q12, .inl (ci, 7, .inl (fun _ => 0))), (q20, .inl (ci, 7, .inl (fun _ => 0))), (q28, .inl (ci, 7, .inl (fun _ => 0)))] := hD
  refine W.widen (k := 3) (n := 21) (by omega) (by omega) ?_
  refine va_putF (D := D) (ci := 0) (v := .ref q28) (ty := .array .int) (fs := [.int 0, .ref q12, .ref q20, .null, .null, .null, .null]) (C := R_Jobs) (T := F_Jobs) (N := 7) hx hb hts ik_Jobs ty_Jobs ty_Jobs_ok nn_Jobs hown hK hP hD hS 0 rfl rfl 3 (by decide) (hts _ kw_15) (fun _ h9 => h9) rfl hin rfl (by decide +kernel) rfl rfl (Nat.le_of_ble_eq_true rfl) d_Jobs_init_30 (fun H locs hP hD hS => ?_)
  have hP : va_P D classes [(h0, .inr (0, [.int 0, .ref q12, .ref q20, .ref q28, .null, .null, .null])), (q12, .inl (ci, 7, .inl (fun _ => 0))), (q20, .inl (ci, 7, .inl (fun _ => 0))), (q28, .inl (ci, 7, .inl (fun _ => 0)))] H := hP
  have hD : va_D A [(h0, .inr (0, [.int 0, .ref q12, .ref q20, .ref q28, .null, .null, .null])), (q12, .inl (ci, 7, .inl (fun _ => 0))), (q20, .inl (ci, 7, .inl (fun _ => 0))), (q28, .inl (ci, 7, .inl (fun _ => 0)))] := hD
  refine lv_aload_n hx hb d_Jobs_init_33 rfl (lv_at hl 0 rfl) ?_
  refine lv_bipush (v := 7) hx hb d_Jobs_init_34 (by decide) ?_
  refine va_newa (atype := .int) (N' := 7) (a0 := (7, .inl (fun _ => 0))) (ty := .int) (n := 7) hx hb (hts _ kw_4) rfl hK hP hD hS hA (fun _ => rfl) (by decide) (by decide) (by decide) (Nat.le_of_ble_eq_true rfl) (Nat.le_of_ble_eq_true rfl) d_Jobs_init_36 (fun q36 c36 H hK hP hD hS => ?_)
  obtain rfl := gk_K2 hK 0 2 rfl rfl (by decide)
  have hK : va_K D classes (xt ci cl) s := hK.sub [0, 1] rfl
  have hP : va_P D classes [(h0, .inr (0, [.int 0, .ref q12, .ref q20, .ref q28, .null, .null, .null])), (q12, .inl (ci, 7, .inl (fun _ => 0))), (q20, .inl (ci, 7, .inl (fun _ => 0))), (q28, .inl (ci, 7, .inl (fun _ => 0))), (q36, .inl (ci, 7, .inl (fun _ => 0)))] H := hP
  have hD : va_D A [(h0, .inr (0, [.int 0, .ref q12, .ref q20, .ref q28, .null, .null, .null])), (q12, .inl (ci, 7, .inl (fun _ => 0))), (q20, .inl (ci, 7, .inl (fun _ => 0))), (q28, .inl (ci, 7, .inl (fun _ => 0))), (q36, .inl (ci, 7, .inl (fun _ => 0)))] := hD
  refine W.widen (k := 4) (n := 28) (by omega) (by omega) ?_
  refine va_putF (D := D) (ci := 0) (v := .ref q36) (ty := .array .int) (fs := [.int 0, .ref q12, .ref q20, .ref q28, .null, .null, .null]) (C := R_Jobs) (T := F_Jobs) (N := 7) hx hb hts ik_Jobs ty_Jobs ty_Jobs_ok nn_Jobs hown hK hP hD hS 0 rfl rfl 4 (by decide) (hts _ kw_16) (fun _ h9 => h9) rfl hin rfl (by decide +kernel) rfl rfl (Nat.le_of_ble_eq_true rfl) d_Jobs_init_38 (fun H locs hP hD hS => ?_)
  have hP : va_P D classes [(h0, .inr (0, [.int 0, .ref q12, .ref q20, .ref q28, .ref q36, .null, .null])), (q12, .inl (ci, 7, .inl (fun _ => 0))), (q20, .inl (ci, 7, .inl (fun _ => 0))), (q28, .inl (ci, 7, .inl (fun _ => 0))), (q36, .inl (ci, 7, .inl (fun _ => 0)))] H := hP
  have hD : va_D A [(h0, .inr (0, [.int 0, .ref q12, .ref q20, .ref q28, .ref q36, .null, .null])), (q12, .inl (ci, 7, .inl (fun _ => 0))), (q20, .inl (ci, 7, .inl (fun _ => 0))), (q28, .inl (ci, 7, .inl (fun _ => 0))), (q36, .inl (ci, 7, .inl (fun _ => 0)))] := hD
  refine lv_aload_n hx hb d_Jobs_init_41 rfl (lv_at hl 0 rfl) ?_
  refine lv_bipush (v := 7) hx hb d_Jobs_init_42 (by decide) ?_
  refine va_newa (atype := .int) (N' := 7) (a0 := (7, .inl (fun _ => 0))) (ty := .int) (n := 7) hx hb (hts _ kw_4) rfl hK hP hD hS hA (fun _ => rfl) (by decide) (by decide) (by decide) (Nat.le_of_ble_eq_true rfl) (Nat.le_of_ble_eq_true rfl) d_Jobs_init_44 (fun q44 c44 H hK hP hD hS => ?_)
  obtain rfl := gk_K2 hK 0 2 rfl rfl (by decide)
  have hK : va_K D classes (xt ci cl) s := hK.sub [0, 1] rfl
  have hP : va_P D classes [(h0, .inr (0, [.int 0, .ref q12, .ref q20, .ref q28, .ref q36, .null, .null])), (q12, .inl (ci, 7, .inl (fun _ => 0))), (q20, .inl (ci, 7, .inl (fun _ => 0))), (q28, .inl (ci, 7, .inl (fun _ => 0))), (q36, .inl (ci, 7, .inl (fun _ => 0))), (q44, .inl (ci, 7, .inl (fun _ => 0)))] H := hP
  have hD : va_D A [(h0, .inr (0, [.int 0, .ref q12, .ref q20, .ref q28, .ref q36, .null, .null])), (q12, .inl (ci, 7, .inl (fun _ => 0))), (q20, .inl (ci, 7, .inl (fun _ => 0))), (q28, .inl (ci, 7, .inl (fun _ => 0))), (q36, .inl (ci, 7, .inl (fun _ => 0))), (q44, .inl (ci, 7, .inl (fun _ => 0)))] := hD
  refine W.widen (k := 5) (n := 35) (by omega) (by omega) ?_
  refine va_putF (D := D) (ci := 0) (v := .ref q44) (ty := .array .int) (fs := [.int 0, .ref q12, .ref q20, .ref q28, .ref q36, .null, .null]) (C := R_Jobs) (T := F_Jobs) (N := 7) hx hb hts ik_Jobs ty_Jobs ty_Jobs_ok nn_Jobs hown hK hP hD hS 0 rfl rfl 5 (by decide) (hts _ kw_17) (fun _ h9 => h9) rfl hin rfl (by decide +kernel) rfl rfl (Nat.le_of_ble_eq_true rfl) d_Jobs_init_46 (fun H locs hP hD hS => ?_)
  have hP : va_P D classes [(h0, .inr (0, [.int 0, .ref q12, .ref q20, .ref q28, .ref q36, .ref q44, .null])), (q12, .inl (ci, 7, .inl (fun _ => 0))), (q20, .inl (ci, 7, .inl (fun _ => 0))), (q28, .inl (ci, 7, .inl (fun _ => 0))), (q36, .inl (ci, 7, .inl (fun _ => 0))), (q44, .inl (ci, 7, .inl (fun _ => 0)))] H := hP
  have hD : va_D A [(h0, .inr (0, [.int 0, .ref q12, .ref q20, .ref q28, .ref q36, .ref q44, .null])), (q12, .inl (ci, 7, .inl (fun _ => 0))), (q20, .inl (ci, 7, .inl (fun _ => 0))), (q28, .inl (ci, 7, .inl (fun _ => 0))), (q36, .inl (ci, 7, .inl (fun _ => 0))), (q44, .inl (ci, 7, .inl (fun _ => 0)))] := hD
  refine lv_aload_n hx hb d_Jobs_init_49 rfl (lv_at hl 0 rfl) ?_
  refine lv_bipush (v := 7) hx hb d_Jobs_init_50 (by decide) ?_
  refine va_newa (atype := .int) (N' := 7) (a0 := (7, .inl (fun _ => 0))) (ty := .int) (n := 7) hx hb (hts _ kw_4) rfl hK hP hD hS hA (fun _ => rfl) (by decide) (by decide) (by decide) (Nat.le_of_ble_eq_true rfl) (Nat.le_of_ble_eq_true rfl) d_Jobs_init_52 (fun q52 c52 H hK hP hD hS => ?_)
  obtain rfl := gk_K2 hK 0 2 rfl rfl (by decide)
  have hK : va_K D classes (xt ci cl) s := hK.sub [0, 1] rfl
  have hP : va_P D classes [(h0, .inr (0, [.int 0, .ref q12, .ref q20, .ref q28, .ref q36, .ref q44, .null])), (q12, .inl (ci, 7, .inl (fun _ => 0))), (q20, .inl (ci, 7, .inl (fun _ => 0))), (q28, .inl (ci, 7, .inl (fun _ => 0))), (q36, .inl (ci, 7, .inl (fun _ => 0))), (q44, .inl (ci, 7, .inl (fun _ => 0))), (q52, .inl (ci, 7, .inl (fun _ => 0)))] H := hP
  have hD : va_D A [(h0, .inr (0, [.int 0, .ref q12, .ref q20, .ref q28, .ref q36, .ref q44, .null])), (q12, .inl (ci, 7, .inl (fun _ => 0))), (q20, .inl (ci, 7, .inl (fun _ => 0))), (q28, .inl (ci, 7, .inl (fun _ => 0))), (q36, .inl (ci, 7, .inl (fun _ => 0))), (q44, .inl (ci, 7, .inl (fun _ => 0))), (q52, .inl (ci, 7, .inl (fun _ => 0)))] := hD
  refine W.widen (k := 6) (n := 42) (by omega) (by omega) ?_
  refine va_putF (D := D) (ci := 0) (v := .ref q52) (ty := .array .int) (fs := [.int 0, .ref q12, .ref q20, .ref q28, .ref q36, .ref q44, .null]) (C := R_Jobs) (T := F_Jobs) (N := 7) hx hb hts ik_Jobs ty_Jobs ty_Jobs_ok nn_Jobs hown hK hP hD hS 0 rfl rfl 6 (by decide) (hts _ kw_18) (fun _ h9 => h9) rfl hin rfl (by decide +kernel) rfl rfl (Nat.le_of_ble_eq_true rfl) d_Jobs_init_54 (fun H locs hP hD hS => ?_)
  have hP : va_P D classes [(h0, .inr (0, [.int 0, .ref q12, .ref q20, .ref q28, .ref q36, .ref q44, .ref q52])), (q12, .inl (ci, 7, .inl (fun _ => 0))), (q20, .inl (ci, 7, .inl (fun _ => 0))), (q28, .inl (ci, 7, .inl (fun _ => 0))), (q36, .inl (ci, 7, .inl (fun _ => 0))), (q44, .inl (ci, 7, .inl (fun _ => 0))), (q52, .inl (ci, 7, .inl (fun _ => 0)))] H := hP
  have hD : va_D A [(h0, .inr (0, [.int 0, .ref q12, .ref q20, .ref q28, .ref q36, .ref q44, .ref q52])), (q12, .inl (ci, 7, .inl (fun _ => 0))), (q20, .inl (ci, 7, .inl (fun _ => 0))), (q28, .inl (ci, 7, .inl (fun _ => 0))), (q36, .inl (ci, 7, .inl (fun _ => 0))), (q44, .inl (ci, 7, .inl (fun _ => 0))), (q52, .inl (ci, 7, .inl (fun _ => 0)))] := hD
  exact W.vret hx hb hr (fun t ht hW => ⟨⟨(), rfl, trivial, q12, q20, q28, q36, q44, q52, by rw [ht]; exact hP, va_K.moved hW.alike hK, hD⟩, hS.F ht⟩) hS.2.2 d_Jobs_init_57 hlocks
set_option maxHeartbeats 4000000 in
set_option maxRecDepth 100000 in
theorem c_Tugs_init (l : Launch) (D : va_G) (ci cl : ClassId) (h0 sz : Nat) : Met l y_Tugs_init w_Tugs_init rm_Tugs_init (va_Pc [.ref h0] (fun U => U.heap.size = sz ∧ va_P D classes [(h0, .inr (4, [.int 0, .null]))] U.heap ∧ va_K D classes (xt ci cl) U ∧ va_D (fun _ => True) [(h0, .inr (4, [.int 0, .null]))])) (va_Qv (fun (_ : Unit) => True) (fun (_ : Unit) (t : State) => ∃ (e1 : Nat), va_P D classes [(h0, .inr (4, [.int 0, .ref e1])), (e1, .inl (ci, 6, .inl (fun _ => 0)))] t.heap ∧ va_K D classes (xt ci cl) t ∧ va_D (va_A [(h0, .inr (4, [.int 0, .null]))] sz) [(h0, .inr (4, [.int 0, .ref e1])), (e1, .inl (ci, 6, .inl (fun _ => 0)))]) (va_A [(h0, .inr (4, [.int 0, .null]))] sz)) 1 6 (va_A [(h0, .inr (4, [.int 0, .null]))] sz) := by
  refine Met.ofW (cc := b_Tugs_init) (maxL := 1) (ret := none) (by decide) rfl ?_
  intro p e s m args below meth c s₁ B hml hv
  obtain ⟨rfl, hsz, hP, hK, hD0⟩ := hv
  have hx := B.exec
  have hb := B.bytes
  have hr := B.returns
  have hts0 := atoms_spec (ws := w_Tugs_init) B.pre
  have hts : ∀ w ∈ TKB, w.before _ s = true := fun w hw => hts0 w (List.mem_cons_of_mem _ hw)
  have hown : s.vm.findClass R_Tugs = some m.cls := findClass_of_methodNamed B.named
  have hlocks := B.notSynchronized
  have hin : meth.name = "<init>" := (name_of_methodNamed B.named B.method).1
  subst hsz
  have hD := hD0.self (sz := s.heap.size)
  generalize hAe : va_A [(h0, .inr (4, [.int 0, .null]))] s.heap.size = A at hD ⊢
  have hA : ∀ q : Nat, s.heap.size ≤ q → A q := fun q h => by rw [← hAe]; exact Or.inr h
  have hS : va_S A s.heap s.heap [] := va_S.rf
  have hP : va_P D classes [(h0, .inr (4, [.int 0, .null]))] s.heap := hP
  have hl := lv_entry ([.ref h0]) (n := 1) (Nat.le_of_ble_eq_true rfl)
  rw [lg_entry_eq]
  generalize (lg_sl ([.ref h0]) ++ List.replicate (1 - (lg_sl ([.ref h0])).length) Slot.unset).toArray = ls at hl ⊢
  have hl : lv_has ls 1 [(0, .ref h0)] := hl
  refine lv_aload_n hx hb d_Tugs_init_0 rfl (lv_at hl 0 rfl) ?_
  refine W.objInit hx hb hown (hts _ kw_19) (hts _ kw_1) (hts _ kw_2) rfl (by rw [hml]; exact hl.1) rfl d_Tugs_init_1 (Nat.le_of_ble_eq_true rfl) (Nat.le_of_ble_eq_true rfl) ?_
  refine W.eq (g2 := F0 m 4 ls []) rfl ?_
  refine lv_aload_n hx hb d_Tugs_init_4 rfl (lv_at hl 0 rfl) ?_
  refine lv_iconst (v := 0) hx hb d_Tugs_init_5 (by decide) ?_
  refine va_put (D := D) (ci := 4) (v := .int 0) (ty := .int) (fs := [.int 0, .null]) (C := R_Tugs) (T := F_Tugs) (N := 2) hx hb hts ik_Tugs ty_Tugs ty_Tugs_ok nn_Tugs hown hK hP hD hS 0 rfl rfl 0 (by decide) (hts _ kw_20) (fun _ h9 => h9) rfl (by decide +kernel) rfl rfl (Nat.le_of_ble_eq_true rfl) d_Tugs_init_6 (fun H locs hP hD hS => ?_)
  have hP : va_P D classes [(h0, .inr (4, [.int 0, .null]))] H := hP
  have hD : va_D A [(h0, .inr (4, [.int 0, .null]))] := hD
  refine lv_aload_n hx hb d_Tugs_init_9 rfl (lv_at hl 0 rfl) ?_
  refine lv_bipush (v := 6) hx hb d_Tugs_init_10 (by decide) ?_
  refine va_newa (atype := .int) (N' := 6) (a0 := (6, .inl (fun _ => 0))) (ty := .int) (n := 6) hx hb (hts _ kw_4) rfl hK hP hD hS hA (fun _ => rfl) (by decide) (by decide) (by decide) (Nat.le_of_ble_eq_true rfl) (Nat.le_of_ble_eq_true rfl) d_Tugs_init_12 (fun q12 c12 H hK hP hD hS => ?_)
  obtain rfl := gk_K2 hK 0 2 rfl rfl (by decide)
  have hK : va_K D classes (xt ci cl) s := hK.sub [0, 1] rfl
  have hP : va_P D classes [(h0, .inr (4, [.int 0, .null])), (q12, .inl (ci, 6, .inl (fun _ => 0)))] H := hP
  have hD : va_D A [(h0, .inr (4, [.int 0, .null])), (q12, .inl (ci, 6, .inl (fun _ => 0)))] := hD
  refine W.widen (k := 1) (n := 6) (by omega) (by omega) ?_
  refine va_putF (D := D) (ci := 4) (v := .ref q12) (ty := .array .int) (fs := [.int 0, .null]) (C := R_Tugs) (T := F_Tugs) (N := 2) hx hb hts ik_Tugs ty_Tugs ty_Tugs_ok nn_Tugs hown hK hP hD hS 0 rfl rfl 1 (by decide) (hts _ kw_21) (fun _ h9 => h9) rfl hin rfl (by decide +kernel) rfl rfl (Nat.le_of_ble_eq_true rfl) d_Tugs_init_14 (fun H locs hP hD hS => ?_)
  have hP : va_P D classes [(h0, .inr (4, [.int 0, .ref q12])), (q12, .inl (ci, 6, .inl (fun _ => 0)))] H := hP
  have hD : va_D A [(h0, .inr (4, [.int 0, .ref q12])), (q12, .inl (ci, 6, .inl (fun _ => 0)))] := hD
  exact W.vret hx hb hr (fun t ht hW => ⟨⟨(), rfl, trivial, q12, by rw [ht]; exact hP, va_K.moved hW.alike hK, hD⟩, hS.F ht⟩) hS.2.2 d_Tugs_init_17 hlocks
set_option maxHeartbeats 4000000 in
set_option maxRecDepth 100000 in
theorem c_Planner_init (l : Launch) (D : va_G) (ci cl : ClassId) (h0 sz : Nat) : Met l y_Planner_init w_Planner_init rm_Planner_init (va_Pc [.ref h0] (fun U => U.heap.size = sz ∧ va_P D classes [(h0, .inr (3, [.null, .null]))] U.heap ∧ va_K D classes (xt ci cl) U ∧ va_D (fun _ => True) [(h0, .inr (3, [.null, .null]))])) (va_Qv (fun (_ : Unit) => True) (fun (_ : Unit) (t : State) => ∃ (e1 e2 : Nat), va_P D classes [(h0, .inr (3, [.ref e1, .ref e2])), (e1, .inl (cl, 128, .inr (.inl (fun _ => 0)))), (e2, .inl (cl, 128, .inr (.inl (fun _ => 0))))] t.heap ∧ va_K D classes (xt ci cl) t ∧ va_D (va_A [(h0, .inr (3, [.null, .null]))] sz) [(h0, .inr (3, [.ref e1, .ref e2])), (e1, .inl (cl, 128, .inr (.inl (fun _ => 0)))), (e2, .inl (cl, 128, .inr (.inl (fun _ => 0))))]) (va_A [(h0, .inr (3, [.null, .null]))] sz)) 2 256 (va_A [(h0, .inr (3, [.null, .null]))] sz) := by
  refine Met.ofW (cc := b_Planner_init) (maxL := 1) (ret := none) (by decide) rfl ?_
  intro p e s m args below meth c s₁ B hml hv
  obtain ⟨rfl, hsz, hP, hK, hD0⟩ := hv
  have hx := B.exec
  have hb := B.bytes
  have hr := B.returns
  have hts0 := atoms_spec (ws := w_Planner_init) B.pre
  have hts : ∀ w ∈ TKB, w.before _ s = true := fun w hw => hts0 w (List.mem_cons_of_mem _ hw)
  have hown : s.vm.findClass R_Planner = some m.cls := findClass_of_methodNamed B.named
  have hlocks := B.notSynchronized
  have hin : meth.name = "<init>" := (name_of_methodNamed B.named B.method).1
  subst hsz
  have hD := hD0.self (sz := s.heap.size)
  generalize hAe : va_A [(h0, .inr (3, [.null, .null]))] s.heap.size = A at hD ⊢
  have hA : ∀ q : Nat, s.heap.size ≤ q → A q := fun q h => by rw [← hAe]; exact Or.inr h
  have hS : va_S A s.heap s.heap [] := va_S.rf
  have hP : va_P D classes [(h0, .inr (3, [.null, .null]))] s.heap := hP
  have hl := lv_entry ([.ref h0]) (n := 1) (Nat.le_of_ble_eq_true rfl)
  rw [lg_entry_eq]
  generalize (lg_sl ([.ref h0]) ++ List.replicate (1 - (lg_sl ([.ref h0])).length) Slot.unset).toArray = ls at hl ⊢
  have hl : lv_has ls 1 [(0, .ref h0)] := hl
  refine lv_aload_n hx hb d_Planner_init_0 rfl (lv_at hl 0 rfl) ?_
  refine W.objInit hx hb hown (hts _ kw_22) (hts _ kw_1) (hts _ kw_2) rfl (by rw [hml]; exact hl.1) rfl d_Planner_init_1 (Nat.le_of_ble_eq_true rfl) (Nat.le_of_ble_eq_true rfl) ?_
  refine W.eq (g2 := F0 m 4 ls []) rfl ?_
  refine lv_aload_n hx hb d_Planner_init_4 rfl (lv_at hl 0 rfl) ?_
  refine lv_sipush (v := 128) hx hb d_Planner_init_5 (by decide) ?_
  refine va_newa (atype := .long) (N' := 128) (a0 := (128, .inr (.inl (fun _ => 0)))) (ty := .long) (n := 128) hx hb (hts _ kw_23) rfl hK hP hD hS hA (fun _ => rfl) (by decide) (by decide) (by decide) (Nat.le_of_ble_eq_true rfl) (Nat.le_of_ble_eq_true rfl) d_Planner_init_8 (fun q8 c8 H hK hP hD hS => ?_)
  obtain rfl := gk_K2 hK 1 2 rfl rfl (by decide)
  have hK : va_K D classes (xt ci cl) s := hK.sub [0, 1] rfl
  have hP : va_P D classes [(h0, .inr (3, [.null, .null])), (q8, .inl (cl, 128, .inr (.inl (fun _ => 0))))] H := hP
  have hD : va_D A [(h0, .inr (3, [.null, .null])), (q8, .inl (cl, 128, .inr (.inl (fun _ => 0))))] := hD
  refine W.widen (k := 1) (n := 128) (by omega) (by omega) ?_
  refine va_putF (D := D) (ci := 3) (v := .ref q8) (ty := .array .long) (fs := [.null, .null]) (C := R_Planner) (T := F_Planner) (N := 2) hx hb hts ik_Planner ty_Planner ty_Planner_ok nn_Planner hown hK hP hD hS 0 rfl rfl 0 (by decide) (hts _ kw_24) (fun _ h9 => h9) rfl hin rfl (by decide +kernel) rfl rfl (Nat.le_of_ble_eq_true rfl) d_Planner_init_10 (fun H locs hP hD hS => ?_)
  have hP : va_P D classes [(h0, .inr (3, [.ref q8, .null])), (q8, .inl (cl, 128, .inr (.inl (fun _ => 0))))] H := hP
  have hD : va_D A [(h0, .inr (3, [.ref q8, .null])), (q8, .inl (cl, 128, .inr (.inl (fun _ => 0))))] := hD
  refine lv_aload_n hx hb d_Planner_init_13 rfl (lv_at hl 0 rfl) ?_
  refine lv_sipush (v := 128) hx hb d_Planner_init_14 (by decide) ?_
  refine va_newa (atype := .long) (N' := 128) (a0 := (128, .inr (.inl (fun _ => 0)))) (ty := .long) (n := 128) hx hb (hts _ kw_23) rfl hK hP hD hS hA (fun _ => rfl) (by decide) (by decide) (by decide) (Nat.le_of_ble_eq_true rfl) (Nat.le_of_ble_eq_true rfl) d_Planner_init_17 (fun q17 c17 H hK hP hD hS => ?_)
  obtain rfl := gk_K2 hK 1 2 rfl rfl (by decide)
  have hK : va_K D classes (xt ci cl) s := hK.sub [0, 1] rfl
  have hP : va_P D classes [(h0, .inr (3, [.ref q8, .null])), (q8, .inl (cl, 128, .inr (.inl (fun _ => 0)))), (q17, .inl (cl, 128, .inr (.inl (fun _ => 0))))] H := hP
  have hD : va_D A [(h0, .inr (3, [.ref q8, .null])), (q8, .inl (cl, 128, .inr (.inl (fun _ => 0)))), (q17, .inl (cl, 128, .inr (.inl (fun _ => 0))))] := hD
  refine W.widen (k := 2) (n := 256) (by omega) (by omega) ?_
  refine va_putF (D := D) (ci := 3) (v := .ref q17) (ty := .array .long) (fs := [.ref q8, .null]) (C := R_Planner) (T := F_Planner) (N := 2) hx hb hts ik_Planner ty_Planner ty_Planner_ok nn_Planner hown hK hP hD hS 0 rfl rfl 1 (by decide) (hts _ kw_25) (fun _ h9 => h9) rfl hin rfl (by decide +kernel) rfl rfl (Nat.le_of_ble_eq_true rfl) d_Planner_init_19 (fun H locs hP hD hS => ?_)
  have hP : va_P D classes [(h0, .inr (3, [.ref q8, .ref q17])), (q8, .inl (cl, 128, .inr (.inl (fun _ => 0)))), (q17, .inl (cl, 128, .inr (.inl (fun _ => 0))))] H := hP
  have hD : va_D A [(h0, .inr (3, [.ref q8, .ref q17])), (q8, .inl (cl, 128, .inr (.inl (fun _ => 0)))), (q17, .inl (cl, 128, .inr (.inl (fun _ => 0))))] := hD
  exact W.vret hx hb hr (fun t ht hW => ⟨⟨(), rfl, trivial, q8, q17, by rw [ht]; exact hP, va_K.moved hW.alike hK, hD⟩, hS.F ht⟩) hS.2.2 d_Planner_init_22 hlocks
set_option maxHeartbeats 4000000 in
set_option maxRecDepth 100000 in
theorem c_Plan_init (l : Launch) (D : va_G) (ci cl : ClassId) (h0 sz : Nat) : Met l y_Plan_init w_Plan_init rm_Plan_init (va_Pc [.ref h0] (fun U => U.heap.size = sz ∧ va_P D classes [(h0, .inr (2, [.int 0, .int 0, .int 0, .int 0, .null, .null, .null, .null, .null]))] U.heap ∧ va_K D classes (xt ci cl) U ∧ va_D (fun _ => True) [(h0, .inr (2, [.int 0, .int 0, .int 0, .int 0, .null, .null, .null, .null, .null]))])) (va_Qv (fun (_ : Unit) => True) (fun (_ : Unit) (t : State) => ∃ (e1 e2 e3 e4 e5 : Nat), va_P D classes [(h0, .inr (2, [.int 0, .int 0, .int 0, .int 0, .ref e1, .ref e2, .ref e3, .ref e4, .ref e5])), (e1, .inl (ci, 7, .inl (fun _ => 0))), (e2, .inl (ci, 7, .inl (fun _ => 0))), (e3, .inl (ci, 7, .inl (fun _ => 0))), (e4, .inl (ci, 7, .inl (fun _ => 0))), (e5, .inl (ci, 7, .inl (fun _ => 0)))] t.heap ∧ va_K D classes (xt ci cl) t ∧ va_D (va_A [(h0, .inr (2, [.int 0, .int 0, .int 0, .int 0, .null, .null, .null, .null, .null]))] sz) [(h0, .inr (2, [.int 0, .int 0, .int 0, .int 0, .ref e1, .ref e2, .ref e3, .ref e4, .ref e5])), (e1, .inl (ci, 7, .inl (fun _ => 0))), (e2, .inl (ci, 7, .inl (fun _ => 0))), (e3, .inl (ci, 7, .inl (fun _ => 0))), (e4, .inl (ci, 7, .inl (fun _ => 0))), (e5, .inl (ci, 7, .inl (fun _ => 0)))]) (va_A [(h0, .inr (2, [.int 0, .int 0, .int 0, .int 0, .null, .null, .null, .null, .null]))] sz)) 5 35 (va_A [(h0, .inr (2, [.int 0, .int 0, .int 0, .int 0, .null, .null, .null, .null, .null]))] sz) := by
  refine Met.ofW (cc := b_Plan_init) (maxL := 1) (ret := none) (by decide) rfl ?_
  intro p e s m args below meth c s₁ B hml hv
  obtain ⟨rfl, hsz, hP, hK, hD0⟩ := hv
  have hx := B.exec
  have hb := B.bytes
  have hr := B.returns
  have hts0 := atoms_spec (ws := w_Plan_init) B.pre
  have hts : ∀ w ∈ TKB, w.before _ s = true := fun w hw => hts0 w (List.mem_cons_of_mem _ hw)
  have hown : s.vm.findClass R_Plan = some m.cls := findClass_of_methodNamed B.named
  have hlocks := B.notSynchronized
  have hin : meth.name = "<init>" := (name_of_methodNamed B.named B.method).1
  subst hsz
  have hD := hD0.self (sz := s.heap.size)
  generalize hAe : va_A [(h0, .inr (2, [.int 0, .int 0, .int 0, .int 0, .null, .null, .null, .null, .null]))] s.heap.size = A at hD ⊢
  have hA : ∀ q : Nat, s.heap.size ≤ q → A q := fun q h => by rw [← hAe]; exact Or.inr h
  have hS : va_S A s.heap s.heap [] := va_S.rf
  have hP : va_P D classes [(h0, .inr (2, [.int 0, .int 0, .int 0, .int 0, .null, .null, .null, .null, .null]))] s.heap := hP
  have hl := lv_entry ([.ref h0]) (n := 1) (Nat.le_of_ble_eq_true rfl)
  rw [lg_entry_eq]
  generalize (lg_sl ([.ref h0]) ++ List.replicate (1 - (lg_sl ([.ref h0])).length) Slot.unset).toArray = ls at hl ⊢
  have hl : lv_has ls 1 [(0, .ref h0)] := hl
  refine lv_aload_n hx hb d_Plan_init_0 rfl (lv_at hl 0 rfl) ?_
  refine W.objInit hx hb hown (hts _ kw_26) (hts _ kw_1) (hts _ kw_2) rfl (by rw [hml]; exact hl.1) rfl d_Plan_init_1 (Nat.le_of_ble_eq_true rfl) (Nat.le_of_ble_eq_true rfl) ?_
  refine W.eq (g2 := F0 m 4 ls []) rfl ?_
  refine lv_aload_n hx hb d_Plan_init_4 rfl (lv_at hl 0 rfl) ?_
  refine lv_iconst (v := 0) hx hb d_Plan_init_5 (by decide) ?_
  refine va_put (D := D) (ci := 2) (v := .int 0) (ty := .boolean) (fs := [.int 0, .int 0, .int 0, .int 0, .null, .null, .null, .null, .null]) (C := R_Plan) (T := F_Plan) (N := 9) hx hb hts ik_Plan ty_Plan ty_Plan_ok nn_Plan hown hK hP hD hS 0 rfl rfl 0 (by decide) (hts _ kw_27) (fun _ h9 => h9) rfl (by decide +kernel) rfl rfl (Nat.le_of_ble_eq_true rfl) d_Plan_init_6 (fun H locs hP hD hS => ?_)
  have hP : va_P D classes [(h0, .inr (2, [.int 0, .int 0, .int 0, .int 0, .null, .null, .null, .null, .null]))] H := hP
  have hD : va_D A [(h0, .inr (2, [.int 0, .int 0, .int 0, .int 0, .null, .null, .null, .null, .null]))] := hD
  refine lv_aload_n hx hb d_Plan_init_9 rfl (lv_at hl 0 rfl) ?_
  refine lv_iconst (v := 0) hx hb d_Plan_init_10 (by decide) ?_
  refine va_put (D := D) (ci := 2) (v := .int 0) (ty := .int) (fs := [.int 0, .int 0, .int 0, .int 0, .null, .null, .null, .null, .null]) (C := R_Plan) (T := F_Plan) (N := 9) hx hb hts ik_Plan ty_Plan ty_Plan_ok nn_Plan hown hK hP hD hS 0 rfl rfl 1 (by decide) (hts _ kw_28) (fun _ h9 => h9) rfl (by decide +kernel) rfl rfl (Nat.le_of_ble_eq_true rfl) d_Plan_init_11 (fun H locs hP hD hS => ?_)
  have hP : va_P D classes [(h0, .inr (2, [.int 0, .int 0, .int 0, .int 0, .null, .null, .null, .null, .null]))] H := hP
  have hD : va_D A [(h0, .inr (2, [.int 0, .int 0, .int 0, .int 0, .null, .null, .null, .null, .null]))] := hD
  refine lv_aload_n hx hb d_Plan_init_14 rfl (lv_at hl 0 rfl) ?_
  refine lv_iconst (v := 0) hx hb d_Plan_init_15 (by decide) ?_
  refine va_put (D := D) (ci := 2) (v := .int 0) (ty := .int) (fs := [.int 0, .int 0, .int 0, .int 0, .null, .null, .null, .null, .null]) (C := R_Plan) (T := F_Plan) (N := 9) hx hb hts ik_Plan ty_Plan ty_Plan_ok nn_Plan hown hK hP hD hS 0 rfl rfl 2 (by decide) (hts _ kw_29) (fun _ h9 => h9) rfl (by decide +kernel) rfl rfl (Nat.le_of_ble_eq_true rfl) d_Plan_init_16 (fun H locs hP hD hS => ?_)
  have hP : va_P D classes [(h0, .inr (2, [.int 0, .int 0, .int 0, .int 0, .null, .null, .null, .null, .null]))] H := hP
  have hD : va_D A [(h0, .inr (2, [.int 0, .int 0, .int 0, .int 0, .null, .null, .null, .null, .null]))] := hD
  refine lv_aload_n hx hb d_Plan_init_19 rfl (lv_at hl 0 rfl) ?_
  refine lv_iconst (v := 0) hx hb d_Plan_init_20 (by decide) ?_
  refine va_put (D := D) (ci := 2) (v := .int 0) (ty := .int) (fs := [.int 0, .int 0, .int 0, .int 0, .null, .null, .null, .null, .null]) (C := R_Plan) (T := F_Plan) (N := 9) hx hb hts ik_Plan ty_Plan ty_Plan_ok nn_Plan hown hK hP hD hS 0 rfl rfl 3 (by decide) (hts _ kw_30) (fun _ h9 => h9) rfl (by decide +kernel) rfl rfl (Nat.le_of_ble_eq_true rfl) d_Plan_init_21 (fun H locs hP hD hS => ?_)
  have hP : va_P D classes [(h0, .inr (2, [.int 0, .int 0, .int 0, .int 0, .null, .null, .null, .null, .null]))] H := hP
  have hD : va_D A [(h0, .inr (2, [.int 0, .int 0, .int 0, .int 0, .null, .null, .null, .null, .null]))] := hD
  refine lv_aload_n hx hb d_Plan_init_24 rfl (lv_at hl 0 rfl) ?_
  refine lv_bipush (v := 7) hx hb d_Plan_init_25 (by decide) ?_
  refine va_newa (atype := .int) (N' := 7) (a0 := (7, .inl (fun _ => 0))) (ty := .int) (n := 7) hx hb (hts _ kw_4) rfl hK hP hD hS hA (fun _ => rfl) (by decide) (by decide) (by decide) (Nat.le_of_ble_eq_true rfl) (Nat.le_of_ble_eq_true rfl) d_Plan_init_27 (fun q27 c27 H hK hP hD hS => ?_)
  obtain rfl := gk_K2 hK 0 2 rfl rfl (by decide)
  have hK : va_K D classes (xt ci cl) s := hK.sub [0, 1] rfl
  have hP : va_P D classes [(h0, .inr (2, [.int 0, .int 0, .int 0, .int 0, .null, .null, .null, .null, .null])), (q27, .inl (ci, 7, .inl (fun _ => 0)))] H := hP
  have hD : va_D A [(h0, .inr (2, [.int 0, .int 0, .int 0, .int 0, .null, .null, .null, .null, .null])), (q27, .inl (ci, 7, .inl (fun _ => 0)))] := hD
  refine W.widen (k := 1) (n := 7) (by omega) (by omega) ?_
  refine va_putF (D := D) (ci := 2) (v := .ref q27) (ty := .array .int) (fs := [.int 0, .int 0, .int 0, .int 0, .null, .null, .null, .null, .null]) (C := R_Plan) (T := F_Plan) (N := 9) hx hb hts ik_Plan ty_Plan ty_Plan_ok nn_Plan hown hK hP hD hS 0 rfl rfl 4 (by decide) (hts _ kw_31) (fun _ h9 => h9) rfl hin rfl (by decide +kernel) rfl rfl (Nat.le_of_ble_eq_true rfl) d_Plan_init_29 (fun H locs hP hD hS => ?_)
  have hP : va_P D classes [(h0, .inr (2, [.int 0, .int 0, .int 0, .int 0, .ref q27, .null, .null, .null, .null])), (q27, .inl (ci, 7, .inl (fun _ => 0)))] H := hP
  have hD : va_D A [(h0, .inr (2, [.int 0, .int 0, .int 0, .int 0, .ref q27, .null, .null, .null, .null])), (q27, .inl (ci, 7, .inl (fun _ => 0)))] := hD
  refine lv_aload_n hx hb d_Plan_init_32 rfl (lv_at hl 0 rfl) ?_
  refine lv_bipush (v := 7) hx hb d_Plan_init_33 (by decide) ?_
  refine va_newa (atype := .int) (N' := 7) (a0 := (7, .inl (fun _ => 0))) (ty := .int) (n := 7) hx hb (hts _ kw_4) rfl hK hP hD hS hA (fun _ => rfl) (by decide) (by decide) (by decide) (Nat.le_of_ble_eq_true rfl) (Nat.le_of_ble_eq_true rfl) d_Plan_init_35 (fun q35 c35 H hK hP hD hS => ?_)
  obtain rfl := gk_K2 hK 0 2 rfl rfl (by decide)
  have hK : va_K D classes (xt ci cl) s := hK.sub [0, 1] rfl
  have hP : va_P D classes [(h0, .inr (2, [.int 0, .int 0, .int 0, .int 0, .ref q27, .null, .null, .null, .null])), (q27, .inl (ci, 7, .inl (fun _ => 0))), (q35, .inl (ci, 7, .inl (fun _ => 0)))] H := hP
  have hD : va_D A [(h0, .inr (2, [.int 0, .int 0, .int 0, .int 0, .ref q27, .null, .null, .null, .null])), (q27, .inl (ci, 7, .inl (fun _ => 0))), (q35, .inl (ci, 7, .inl (fun _ => 0)))] := hD
  refine W.widen (k := 2) (n := 14) (by omega) (by omega) ?_
  refine va_putF (D := D) (ci := 2) (v := .ref q35) (ty := .array .int) (fs := [.int 0, .int 0, .int 0, .int 0, .ref q27, .null, .null, .null, .null]) (C := R_Plan) (T := F_Plan) (N := 9) hx hb hts ik_Plan ty_Plan ty_Plan_ok nn_Plan hown hK hP hD hS 0 rfl rfl 5 (by decide) (hts _ kw_32) (fun _ h9 => h9) rfl hin rfl (by decide +kernel) rfl rfl (Nat.le_of_ble_eq_true rfl) d_Plan_init_37 (fun H locs hP hD hS => ?_)
  have hP : va_P D classes [(h0, .inr (2, [.int 0, .int 0, .int 0, .int 0, .ref q27, .ref q35, .null, .null, .null])), (q27, .inl (ci, 7, .inl (fun _ => 0))), (q35, .inl (ci, 7, .inl (fun _ => 0)))] H := hP
  have hD : va_D A [(h0, .inr (2, [.int 0, .int 0, .int 0, .int 0, .ref q27, .ref q35, .null, .null, .null])), (q27, .inl (ci, 7, .inl (fun _ => 0))), (q35, .inl (ci, 7, .inl (fun _ => 0)))] := hD
  refine lv_aload_n hx hb d_Plan_init_40 rfl (lv_at hl 0 rfl) ?_
  refine lv_bipush (v := 7) hx hb d_Plan_init_41 (by decide) ?_
  refine va_newa (atype := .int) (N' := 7) (a0 := (7, .inl (fun _ => 0))) (ty := .int) (n := 7) hx hb (hts _ kw_4) rfl hK hP hD hS hA (fun _ => rfl) (by decide) (by decide) (by decide) (Nat.le_of_ble_eq_true rfl) (Nat.le_of_ble_eq_true rfl) d_Plan_init_43 (fun q43 c43 H hK hP hD hS => ?_)
  obtain rfl := gk_K2 hK 0 2 rfl rfl (by decide)
  have hK : va_K D classes (xt ci cl) s := hK.sub [0, 1] rfl
  have hP : va_P D classes [(h0, .inr (2, [.int 0, .int 0, .int 0, .int 0, .ref q27, .ref q35, .null, .null, .null])), (q27, .inl (ci, 7, .inl (fun _ => 0))), (q35, .inl (ci, 7, .inl (fun _ => 0))), (q43, .inl (ci, 7, .inl (fun _ => 0)))] H := hP
  have hD : va_D A [(h0, .inr (2, [.int 0, .int 0, .int 0, .int 0, .ref q27, .ref q35, .null, .null, .null])), (q27, .inl (ci, 7, .inl (fun _ => 0))), (q35, .inl (ci, 7, .inl (fun _ => 0))), (q43, .inl (ci, 7, .inl (fun _ => 0)))] := hD
  refine W.widen (k := 3) (n := 21) (by omega) (by omega) ?_
  refine va_putF (D := D) (ci := 2) (v := .ref q43) (ty := .array .int) (fs := [.int 0, .int 0, .int 0, .int 0, .ref q27, .ref q35, .null, .null, .null]) (C := R_Plan) (T := F_Plan) (N := 9) hx hb hts ik_Plan ty_Plan ty_Plan_ok nn_Plan hown hK hP hD hS 0 rfl rfl 6 (by decide) (hts _ kw_33) (fun _ h9 => h9) rfl hin rfl (by decide +kernel) rfl rfl (Nat.le_of_ble_eq_true rfl) d_Plan_init_45 (fun H locs hP hD hS => ?_)
  have hP : va_P D classes [(h0, .inr (2, [.int 0, .int 0, .int 0, .int 0, .ref q27, .ref q35, .ref q43, .null, .null])), (q27, .inl (ci, 7, .inl (fun _ => 0))), (q35, .inl (ci, 7, .inl (fun _ => 0))), (q43, .inl (ci, 7, .inl (fun _ => 0)))] H := hP
  have hD : va_D A [(h0, .inr (2, [.int 0, .int 0, .int 0, .int 0, .ref q27, .ref q35, .ref q43, .null, .null])), (q27, .inl (ci, 7, .inl (fun _ => 0))), (q35, .inl (ci, 7, .inl (fun _ => 0))), (q43, .inl (ci, 7, .inl (fun _ => 0)))] := hD
  refine lv_aload_n hx hb d_Plan_init_48 rfl (lv_at hl 0 rfl) ?_
  refine lv_bipush (v := 7) hx hb d_Plan_init_49 (by decide) ?_
  refine va_newa (atype := .int) (N' := 7) (a0 := (7, .inl (fun _ => 0))) (ty := .int) (n := 7) hx hb (hts _ kw_4) rfl hK hP hD hS hA (fun _ => rfl) (by decide) (by decide) (by decide) (Nat.le_of_ble_eq_true rfl) (Nat.le_of_ble_eq_true rfl) d_Plan_init_51 (fun q51 c51 H hK hP hD hS => ?_)
  obtain rfl := gk_K2 hK 0 2 rfl rfl (by decide)
  have hK : va_K D classes (xt ci cl) s := hK.sub [0, 1] rfl
  have hP : va_P D classes [(h0, .inr (2, [.int 0, .int 0, .int 0, .int 0, .ref q27, .ref q35, .ref q43, .null, .null])), (q27, .inl (ci, 7, .inl (fun _ => 0))), (q35, .inl (ci, 7, .inl (fun _ => 0))), (q43, .inl (ci, 7, .inl (fun _ => 0))), (q51, .inl (ci, 7, .inl (fun _ => 0)))] H := hP
  have hD : va_D A [(h0, .inr (2, [.int 0, .int 0, .int 0, .int 0, .ref q27, .ref q35, .ref q43, .null, .null])), (q27, .inl (ci, 7, .inl (fun _ => 0))), (q35, .inl (ci, 7, .inl (fun _ => 0))), (q43, .inl (ci, 7, .inl (fun _ => 0))), (q51, .inl (ci, 7, .inl (fun _ => 0)))] := hD
  refine W.widen (k := 4) (n := 28) (by omega) (by omega) ?_
  refine va_putF (D := D) (ci := 2) (v := .ref q51) (ty := .array .int) (fs := [.int 0, .int 0, .int 0, .int 0, .ref q27, .ref q35, .ref q43, .null, .null]) (C := R_Plan) (T := F_Plan) (N := 9) hx hb hts ik_Plan ty_Plan ty_Plan_ok nn_Plan hown hK hP hD hS 0 rfl rfl 7 (by decide) (hts _ kw_34) (fun _ h9 => h9) rfl hin rfl (by decide +kernel) rfl rfl (Nat.le_of_ble_eq_true rfl) d_Plan_init_53 (fun H locs hP hD hS => ?_)
  have hP : va_P D classes [(h0, .inr (2, [.int 0, .int 0, .int 0, .int 0, .ref q27, .ref q35, .ref q43, .ref q51, .null])), (q27, .inl (ci, 7, .inl (fun _ => 0))), (q35, .inl (ci, 7, .inl (fun _ => 0))), (q43, .inl (ci, 7, .inl (fun _ => 0))), (q51, .inl (ci, 7, .inl (fun _ => 0)))] H := hP
  have hD : va_D A [(h0, .inr (2, [.int 0, .int 0, .int 0, .int 0, .ref q27, .ref q35, .ref q43, .ref q51, .null])), (q27, .inl (ci, 7, .inl (fun _ => 0))), (q35, .inl (ci, 7, .inl (fun _ => 0))), (q43, .inl (ci, 7, .inl (fun _ => 0))), (q51, .inl (ci, 7, .inl (fun _ => 0)))] := hD
  refine lv_aload_n hx hb d_Plan_init_56 rfl (lv_at hl 0 rfl) ?_
  refine lv_bipush (v := 7) hx hb d_Plan_init_57 (by decide) ?_
  refine va_newa (atype := .int) (N' := 7) (a0 := (7, .inl (fun _ => 0))) (ty := .int) (n := 7) hx hb (hts _ kw_4) rfl hK hP hD hS hA (fun _ => rfl) (by decide) (by decide) (by decide) (Nat.le_of_ble_eq_true rfl) (Nat.le_of_ble_eq_true rfl) d_Plan_init_59 (fun q59 c59 H hK hP hD hS => ?_)
  obtain rfl := gk_K2 hK 0 2 rfl rfl (by decide)
  have hK : va_K D classes (xt ci cl) s := hK.sub [0, 1] rfl
  have hP : va_P D classes [(h0, .inr (2, [.int 0, .int 0, .int 0, .int 0, .ref q27, .ref q35, .ref q43, .ref q51, .null])), (q27, .inl (ci, 7, .inl (fun _ => 0))), (q35, .inl (ci, 7, .inl (fun _ => 0))), (q43, .inl (ci, 7, .inl (fun _ => 0))), (q51, .inl (ci, 7, .inl (fun _ => 0))), (q59, .inl (ci, 7, .inl (fun _ => 0)))] H := hP
  have hD : va_D A [(h0, .inr (2, [.int 0, .int 0, .int 0, .int 0, .ref q27, .ref q35, .ref q43, .ref q51, .null])), (q27, .inl (ci, 7, .inl (fun _ => 0))), (q35, .inl (ci, 7, .inl (fun _ => 0))), (q43, .inl (ci, 7, .inl (fun _ => 0))), (q51, .inl (ci, 7, .inl (fun _ => 0))), (q59, .inl (ci, 7, .inl (fun _ => 0)))] := hD
  refine W.widen (k := 5) (n := 35) (by omega) (by omega) ?_
  refine va_putF (D := D) (ci := 2) (v := .ref q59) (ty := .array .int) (fs := [.int 0, .int 0, .int 0, .int 0, .ref q27, .ref q35, .ref q43, .ref q51, .null]) (C := R_Plan) (T := F_Plan) (N := 9) hx hb hts ik_Plan ty_Plan ty_Plan_ok nn_Plan hown hK hP hD hS 0 rfl rfl 8 (by decide) (hts _ kw_35) (fun _ h9 => h9) rfl hin rfl (by decide +kernel) rfl rfl (Nat.le_of_ble_eq_true rfl) d_Plan_init_61 (fun H locs hP hD hS => ?_)
  have hP : va_P D classes [(h0, .inr (2, [.int 0, .int 0, .int 0, .int 0, .ref q27, .ref q35, .ref q43, .ref q51, .ref q59])), (q27, .inl (ci, 7, .inl (fun _ => 0))), (q35, .inl (ci, 7, .inl (fun _ => 0))), (q43, .inl (ci, 7, .inl (fun _ => 0))), (q51, .inl (ci, 7, .inl (fun _ => 0))), (q59, .inl (ci, 7, .inl (fun _ => 0)))] H := hP
  have hD : va_D A [(h0, .inr (2, [.int 0, .int 0, .int 0, .int 0, .ref q27, .ref q35, .ref q43, .ref q51, .ref q59])), (q27, .inl (ci, 7, .inl (fun _ => 0))), (q35, .inl (ci, 7, .inl (fun _ => 0))), (q43, .inl (ci, 7, .inl (fun _ => 0))), (q51, .inl (ci, 7, .inl (fun _ => 0))), (q59, .inl (ci, 7, .inl (fun _ => 0)))] := hD
  exact W.vret hx hb hr (fun t ht hW => ⟨⟨(), rfl, trivial, q27, q35, q43, q51, q59, by rw [ht]; exact hP, va_K.moved hW.alike hK, hD⟩, hS.F ht⟩) hS.2.2 d_Plan_init_64 hlocks
