set_option maxHeartbeats 4000000 in
set_option maxRecDepth 100000 in
theorem c_Ways_init (l : Launch) (D : va_G) (ci cl : ClassId) (h0 sz : Nat) : Met l y_Ways_init w_Ways_init rm_Ways_init (va_Pc [.ref h0] (fun U => U.heap.size = sz ∧ va_P D classes [(h0, .inr (5, [.int 0, .null]))] U.heap ∧ va_K D classes (xt ci cl) U ∧ va_D (fun _ => True) [(h0, .inr (5, [.int 0, .null]))])) (va_Qv (fun (_ : Unit) => True) (fun (_ : Unit) (t : State) => ∃ (e1 : Nat), va_P D classes [(h0, .inr (5, [.int 0, .ref e1])), (e1, .inl (ci, 25, .inl W25))] t.heap ∧ va_K D classes (xt ci cl) t ∧ va_D (va_A [(h0, .inr (5, [.int 0, .null]))] sz) [(h0, .inr (5, [.int 0, .ref e1])), (e1, .inl (ci, 25, .inl W25))]) (va_A [(h0, .inr (5, [.int 0, .null]))] sz)) 1 25 (va_A [(h0, .inr (5, [.int 0, .null]))] sz) := by
  refine Met.ofW (cc := b_Ways_init) (maxL := 3) (ret := none) (by decide) rfl ?_
  intro p e s m args below meth c s₁ B hml hv
  obtain ⟨rfl, hsz, hP, hK, hD0⟩ := hv
  have hx := B.exec
  have hb := B.bytes
  have hr := B.returns
  have hts0 := atoms_spec (ws := w_Ways_init) B.pre
  have hts : ∀ w ∈ TKB, w.before _ s = true := fun w hw => hts0 w (List.mem_cons_of_mem _ hw)
  have hown : s.vm.findClass R_Ways = some m.cls := findClass_of_methodNamed B.named
  have hlocks := B.notSynchronized
  have hin : meth.name = "<init>" := (name_of_methodNamed B.named B.method).1
  subst hsz
  have hD := hD0.self (sz := s.heap.size)
  generalize hAe : va_A [(h0, .inr (5, [.int 0, .null]))] s.heap.size = A at hD ⊢
  have hA : ∀ q : Nat, s.heap.size ≤ q → A q := fun q h => by rw [← hAe]; exact Or.inr h
  have hS : va_S A s.heap s.heap [] := va_S.rf
  have hP : va_P D classes [(h0, .inr (5, [.int 0, .null]))] s.heap := hP
  have hl := lv_entry ([.ref h0]) (n := 3) (Nat.le_of_ble_eq_true rfl)
  rw [lg_entry_eq]
  generalize (lg_sl ([.ref h0]) ++ List.replicate (3 - (lg_sl ([.ref h0])).length) Slot.unset).toArray = ls at hl ⊢
  have hl : lv_has ls 3 [(0, .ref h0)] := hl
  refine lv_aload_n hx hb d_Ways_init_0 rfl (lv_at hl 0 rfl) ?_
  refine W.objInit hx hb hown (hts _ kw_36) (hts _ kw_1) (hts _ kw_2) rfl (by rw [hml]; exact hl.1) rfl d_Ways_init_1 (Nat.le_of_ble_eq_true rfl) (Nat.le_of_ble_eq_true rfl) ?_
  refine W.eq (g2 := F0 m 4 ls []) rfl ?_
  refine lv_aload_n hx hb d_Ways_init_4 rfl (lv_at hl 0 rfl) ?_
  refine lv_iconst (v := 0) hx hb d_Ways_init_5 (by decide) ?_
  refine va_put (D := D) (ci := 5) (v := .int 0) (ty := .int) (fs := [.int 0, .null]) (C := R_Ways) (T := F_Ways) (N := 2) hx hb hts ik_Ways ty_Ways ty_Ways_ok nn_Ways hown hK hP hD hS 0 rfl rfl 0 (by decide) (hts _ kw_37) (fun _ h9 => h9) rfl (by decide +kernel) rfl rfl (Nat.le_of_ble_eq_true rfl) d_Ways_init_6 (fun H locs hP hD hS => ?_)
  have hP : va_P D classes [(h0, .inr (5, [.int 0, .null]))] H := hP
  have hD : va_D A [(h0, .inr (5, [.int 0, .null]))] := hD
  refine lv_aload_n hx hb d_Ways_init_9 rfl (lv_at hl 0 rfl) ?_
  refine lv_bipush (v := 25) hx hb d_Ways_init_10 (by decide) ?_
  refine va_newa (atype := .int) (N' := 25) (a0 := (25, .inl (fun _ => 0))) (ty := .int) (n := 25) hx hb (hts _ kw_4) rfl hK hP hD hS hA (fun _ => rfl) (by decide) (by decide) (by decide) (Nat.le_of_ble_eq_true rfl) (Nat.le_of_ble_eq_true rfl) d_Ways_init_12 (fun q12 c12 H hK hP hD hS => ?_)
  obtain rfl := gk_K2 hK 0 2 rfl rfl (by decide)
  have hK : va_K D classes (xt ci cl) s := hK.sub [0, 1] rfl
  have hP : va_P D classes [(h0, .inr (5, [.int 0, .null])), (q12, .inl (ci, 25, .inl (fun _ => 0)))] H := hP
  have hD : va_D A [(h0, .inr (5, [.int 0, .null])), (q12, .inl (ci, 25, .inl (fun _ => 0)))] := hD
  refine W.widen (k := 1) (n := 25) (by omega) (by omega) ?_
  refine va_putF (D := D) (ci := 5) (v := .ref q12) (ty := .array .int) (fs := [.int 0, .null]) (C := R_Ways) (T := F_Ways) (N := 2) hx hb hts ik_Ways ty_Ways ty_Ways_ok nn_Ways hown hK hP hD hS 0 rfl rfl 1 (by decide) (hts _ kw_38) (fun _ h9 => h9) rfl hin rfl (by decide +kernel) rfl rfl (Nat.le_of_ble_eq_true rfl) d_Ways_init_14 (fun H locs hP hD hS => ?_)
  have hP : va_P D classes [(h0, .inr (5, [.int 0, .ref q12])), (q12, .inl (ci, 25, .inl (fun _ => 0)))] H := hP
  have hD : va_D A [(h0, .inr (5, [.int 0, .ref q12])), (q12, .inl (ci, 25, .inl (fun _ => 0)))] := hD
  have hP : va_P D classes [(h0, .inr (5, [.int 0, .ref q12])), (q12, .inl (ci, 25, .inl (W25p (0))))] H := by rw [W25p_0]; exact hP
  have hD : va_D A [(h0, .inr (5, [.int 0, .ref q12])), (q12, .inl (ci, 25, .inl (W25p (0))))] := hD
  have hend : ∀ (H : Heap) (locs : List Loc) (ls : Array Slot), va_P D classes [(h0, .inr (5, [.int 0, .ref q12])), (q12, .inl (ci, 25, .inl (W25p (25))))] H → va_D A [(h0, .inr (5, [.int 0, .ref q12])), (q12, .inl (ci, 25, .inl (W25p (25))))] → va_S A s.heap H locs → W p l e rm_Ways_init s m ([.ref h0] : List Value).toArray below meth c H locs 1 25 (MQ below (va_Qv (fun (_ : Unit) => True) (fun (_ : Unit) (t : State) => ∃ (e1 : Nat), va_P D classes [(h0, .inr (5, [.int 0, .ref e1])), (e1, .inl (ci, 25, .inl W25))] t.heap ∧ va_K D classes (xt ci cl) t ∧ va_D A [(h0, .inr (5, [.int 0, .ref e1])), (e1, .inl (ci, 25, .inl W25))]) A) ([.ref h0] : List Value).toArray s 1 25 A) (F0 m 64 ls []) := by
    intro H locs ls hP hD hS
    rw [W25p_25] at hP hD
    exact W.vret hx hb hr (fun t ht hW => ⟨⟨(), rfl, trivial, q12, by rw [ht]; exact hP, va_K.moved hW.alike hK, hD⟩, hS.F ht⟩) hS.2.2 d_Ways_init_64 hlocks
  have hloop : ∀ (k a b : Nat), (25 - (5 * a + b)) * 2 + (if b = 5 then 1 else 0) < k → a < 5 → b ≤ 5 → ∀ (H : Heap) (locs : List Loc) (ls : Array Slot), va_P D classes [(h0, .inr (5, [.int 0, .ref q12])), (q12, .inl (ci, 25, .inl (W25p (5 * a + b))))] H → va_D A [(h0, .inr (5, [.int 0, .ref q12])), (q12, .inl (ci, 25, .inl (W25p (5 * a + b))))] → va_S A s.heap H locs → lv_has ls 3 [(2, .int (nI b)), (1, .int (nI a)), (0, .ref h0)] → W p l e rm_Ways_init s m ([.ref h0] : List Value).toArray below meth c H locs 1 25 (MQ below (va_Qv (fun (_ : Unit) => True) (fun (_ : Unit) (t : State) => ∃ (e1 : Nat), va_P D classes [(h0, .inr (5, [.int 0, .ref e1])), (e1, .inl (ci, 25, .inl W25))] t.heap ∧ va_K D classes (xt ci cl) t ∧ va_D A [(h0, .inr (5, [.int 0, .ref e1])), (e1, .inl (ci, 25, .inl W25))]) A) ([.ref h0] : List Value).toArray s 1 25 A) (F0 m 26 ls []) := by
    intro k
    induction k with
    | zero => intro a b hk; exact absurd hk (Nat.not_lt_zero _)
    | succ k ih =>
      intro a b hk ha hb5 H locs ls hP hD hS hl
      have hca : (nI a * 5 + nI b) = nI (5 * a + b) := by
        have : (5 : Int32) = nI 5 := rfl
        rw [this, nI_mul, nI_add, Nat.mul_comm]
      refine lv_iload_n hx hb d_Ways_init_26 rfl (lv_at hl 0 rfl) ?_
      refine lv_iconst (v := 5) hx hb d_Ways_init_27 (by decide) ?_
      refine lv_icmp_ge (tgt := 58) hx hb d_Ways_init_28 (by decide) (fun hc => ?_) (fun hc => ?_)
      · have e5 : (5 : Int32) = nI 5 := rfl
        rw [e5, nI_leI (by decide) (by omega)] at hc
        have eb : b = 5 := by omega
        subst eb
        refine lv_iinc (v := nI (a + 1)) (lv' := [(1, .int (nI (a + 1))), (2, .int (nI 5)), (0, .ref h0)]) hx hb d_Ways_init_58 hl (k := 1) rfl (nI_1 a) (by decide) rfl (fun ls hl => ?_)
        refine lv_goto (tgt := 19) hx hb d_Ways_init_61 (by decide) ?_
        refine lv_iload_n hx hb d_Ways_init_19 rfl (lv_at hl 0 rfl) ?_
        refine lv_iconst (v := 5) hx hb d_Ways_init_20 (by decide) ?_
        refine lv_icmp_ge (tgt := 64) hx hb d_Ways_init_21 (by decide) (fun hc2 => ?_) (fun hc2 => ?_)
        · rw [e5, nI_leI (by decide) (by omega)] at hc2
          have ea : 5 * a + 5 = 25 := by omega
          rw [ea] at hP hD
          exact hend H locs ls hP hD hS
        · rw [e5, nI_leI (by decide) (by omega)] at hc2
          refine lv_iconst (v := 0) hx hb d_Ways_init_24 (by decide) ?_
          refine lv_istore_n (lv' := [(2, .int (nI 0)), (1, .int (nI (a + 1))), (0, .ref h0)]) hx hb d_Ways_init_25 rfl hl (by decide) rfl (fun ls hl => ?_)
          refine ih (a + 1) 0 (by simp at hk ⊢; omega) (by omega) (by omega) H locs ls ?_ ?_ hS hl
          · rw [show 5 * (a + 1) + 0 = 5 * a + 5 by omega]; exact hP
          · rw [show 5 * (a + 1) + 0 = 5 * a + 5 by omega]; exact hD
      · have e5 : (5 : Int32) = nI 5 := rfl
        rw [e5, nI_leI (by decide) (by omega)] at hc
        have hbl : b < 5 := by omega
        have hi : vp_in (nI (5 * a + b)) 25 := vp_in_nI (by omega) (by decide)
        have hgo : ∀ (v : Int32) (H : Heap) (locs : List Loc), v = (if a = b then 0 else 10) → va_P D classes [(h0, .inr (5, [.int 0, .ref q12])), (q12, .inl (ci, 25, .inl (W25p (5 * a + b))))] H → va_D A [(h0, .inr (5, [.int 0, .ref q12])), (q12, .inl (ci, 25, .inl (W25p (5 * a + b))))] → va_S A s.heap H locs → W p l e rm_Ways_init s m ([.ref h0] : List Value).toArray below meth c H locs 1 25 (MQ below (va_Qv (fun (_ : Unit) => True) (fun (_ : Unit) (t : State) => ∃ (e1 : Nat), va_P D classes [(h0, .inr (5, [.int 0, .ref e1])), (e1, .inl (ci, 25, .inl W25))] t.heap ∧ va_K D classes (xt ci cl) t ∧ va_D A [(h0, .inr (5, [.int 0, .ref e1])), (e1, .inl (ci, 25, .inl W25))]) A) ([.ref h0] : List Value).toArray s 1 25 A) (F0 m 51 ls [.int v, .int (nI (5 * a + b)), .ref q12]) := by
          intro v H locs hv hP hD hS
          refine va_iast hx hb hK hP hD hS 1 0 rfl rfl hi d_Ways_init_51 (fun H locs hP hD hS => ?_)
          have hst := W25p_s a b v hbl hv
          rw [show (nI (5 * a + b)).toNatClampNeg = 5 * a + b from nI_clamp (by omega), hst] at hP hD
          have hP : va_P D classes [(h0, .inr (5, [.int 0, .ref q12])), (q12, .inl (ci, 25, .inl (W25p (5 * a + (b + 1)))))] H := hP
          have hD : va_D A [(h0, .inr (5, [.int 0, .ref q12])), (q12, .inl (ci, 25, .inl (W25p (5 * a + (b + 1)))))] := hD
          refine lv_iinc (v := nI (b + 1)) (lv' := [(2, .int (nI (b + 1))), (1, .int (nI a)), (0, .ref h0)]) hx hb d_Ways_init_52 hl (k := 0) rfl (nI_1 b) (by decide) rfl (fun ls hl => ?_)
          refine lv_goto (tgt := 26) hx hb d_Ways_init_55 (by decide) ?_
          refine ih a (b + 1) ?_ ha (by omega) H locs ls hP hD hS hl
          rw [if_neg (by omega)] at hk
          split <;> omega
        refine lv_aload_n hx hb d_Ways_init_31 rfl (lv_at hl 2 rfl) ?_
        refine va_get (D := D) (ci := 5) (v := .ref q12) (C := R_Ways) (T := F_Ways) (N := 2) hx hb hts ik_Ways hown hK hP 0 rfl rfl 1 (by decide) (hts _ kw_38) (fun _ h9 => h9) rfl d_Ways_init_32 ?_
        refine lv_iload_n hx hb d_Ways_init_35 rfl (lv_at hl 1 rfl) ?_
        refine lv_iconst (v := 5) hx hb d_Ways_init_36 (by decide) ?_
        refine lv_imul hx hb d_Ways_init_37 ?_
        refine lv_iload_n hx hb d_Ways_init_38 rfl (lv_at hl 0 rfl) ?_
        refine lv_iadd hx hb d_Ways_init_39 ?_
        rw [hca]
        refine lv_iload_n hx hb d_Ways_init_40 rfl (lv_at hl 1 rfl) ?_
        refine lv_iload_n hx hb d_Ways_init_41 rfl (lv_at hl 0 rfl) ?_
        refine lv_icmp_ne (tgt := 49) hx hb d_Ways_init_42 (by decide) (fun hc2 => ?_) (fun hc2 => ?_)
        · rw [nI_eq (by omega) (by omega)] at hc2
          refine lv_bipush (v := 10) hx hb d_Ways_init_49 (by decide) ?_
          exact hgo 10 H locs (by rw [if_neg hc2]) hP hD hS
        · rw [nI_eq (by omega) (by omega)] at hc2
          refine lv_iconst (v := 0) hx hb d_Ways_init_45 (by decide) ?_
          refine lv_goto (tgt := 51) hx hb d_Ways_init_46 (by decide) ?_
          exact hgo 0 H locs (by rw [if_pos hc2]) hP hD hS
  refine lv_iconst (v := 0) hx hb d_Ways_init_17 (by decide) ?_
  refine lv_istore_n (lv' := [(1, .int 0), (0, .ref h0)]) hx hb d_Ways_init_18 rfl hl (by decide) rfl (fun ls hl => ?_)
  refine lv_iload_n hx hb d_Ways_init_19 rfl (lv_at hl 0 rfl) ?_
  refine lv_iconst (v := 5) hx hb d_Ways_init_20 (by decide) ?_
  refine lv_icmp_ge (tgt := 64) hx hb d_Ways_init_21 (by decide) (fun hc => absurd hc (by decide)) (fun _ => ?_)
  refine lv_iconst (v := 0) hx hb d_Ways_init_24 (by decide) ?_
  refine lv_istore_n (lv' := [(2, .int (nI 0)), (1, .int (nI 0)), (0, .ref h0)]) hx hb d_Ways_init_25 rfl hl (by decide) rfl (fun ls hl => ?_)
  exact hloop 100 0 0 (by decide) (by decide) (by decide) H locs ls hP hD hS hl
