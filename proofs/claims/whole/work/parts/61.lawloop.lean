theorem d_law_23 : decode code 23 = .ok (.iload 4, 2) := by decide +kernel
theorem d_law_25 : decode code 25 = .ok (.aload_n 0, 1) := by decide +kernel
theorem d_law_26 : decode code 26 = .ok (.arraylength, 1) := by decide +kernel
theorem d_law_27 : decode code 27 = .ok (.bipush 6, 2) := by decide +kernel
theorem d_law_29 : decode code 29 = .ok (.isub, 1) := by decide +kernel
theorem d_law_30 : decode code 30 = .ok (.if_icmp .gt 813, 3) := by decide +kernel
theorem d_law_33 : decode code 33 = .ok (.aload_n 0, 1) := by decide +kernel
theorem d_law_34 : decode code 34 = .ok (.iload 4, 2) := by decide +kernel
theorem d_law_36 : decode code 36 = .ok (.iaload, 1) := by decide +kernel
theorem d_law_37 : decode code 37 = .ok (.bipush 15, 2) := by decide +kernel
theorem d_law_39 : decode code 39 = .ok (.iand, 1) := by decide +kernel
theorem d_law_40 : decode code 40 = .ok (.tableswitch 797 0 12 #[68, 160, 216, 320, 369, 394, 431, 444, 512, 580, 648, 704, 772], 68) := by decide +kernel
theorem d_law_837 : decode code 837 = .ok (.iinc 4 6, 3) := by decide +kernel
theorem d_law_840 : decode code 840 = .ok (.goto (-817), 3) := by decide +kernel
theorem d_law_843 : decode code 843 = .ok (.iconst 1, 1) := by decide +kernel
theorem d_law_844 : decode code 844 = .ok (.ireturn, 1) := by decide +kernel
theorem z_and15 (v : Int32) : ∃ j : Nat, j < 16 ∧ v &&& 15 = nI j := by
  have h : (v &&& 15).toBitVec.toNat ≤ 15 := by
    rw [Int32.toBitVec_and, BitVec.toNat_and]; exact Nat.and_le_right
  have h2 : (v &&& 15).toInt = ((v &&& 15).toBitVec.toNat : Int) := BitVec.toInt_eq_toNat_of_lt (by omega)
  refine ⟨(v &&& 15).toBitVec.toNat, by omega, ?_⟩
  have h3 := z_of (x := v &&& 15) (by omega)
  rw [h2] at h3
  exact h3
section LWL
variable {p : Program} {l : Launch} {e : Env} {s : State} {m : MethodId} {below : List Frame} {meth : Method} {c : Code}
variable {D : va_G} {ad : Nat → Nat} {ci cl : ClassId} {b L : Nat} {xs : Nat → Int32}
theorem lw_loop (hlt : l.flags = flags0) (K : LC p s m meth c b L xs ad D ci cl) (had : ∀ q ∈ xa ad, s.heap.size ≤ q) : ∀ (n k : Nat), L < 6 * (k + n) → 6 * k ≤ L → ∀ (σ : MI) (τ : ML) (H : Heap) (locs : List Loc) (ls : Array Slot), CPL σ → va_P D classes (xw ad ci cl σ τ) H → va_D (gA (xa ad) s.heap.size) (xw ad ci cl σ τ) → va_S (gA (xa ad) s.heap.size) s.heap H locs → lv_has ls 7 (ll ad b (6 * k)) →
    W p l e room_1 s m #[Value.ref b] below meth c H locs (47 + k) (1071 + 6 * k) (lw_Z below #[Value.ref b] s) (F0 m 23 ls []) := by
  intro n
  induction n with
  | zero => intro k h1 h2; omega
  | succ n ih =>
    intro k h1 h2 σ τ H locs ls h hP hD hS hl0
    obtain ⟨⟨hx, hb, hr, hml, hown, hts, hX, hbl, hlocks, -⟩, hK, hXT, hst, hbA, hL⟩ := id K
    have hl : lv_has ls 7 [(4, .int (nI (6 * k))), (0, .ref b), (1, .ref (ad 0)), (2, .ref (ad 29)), (3, .ref (ad 28))] := hl0
    have ei : (nI (6 * k)).toInt = ((6 * k : Nat) : Int) := z_nI (by omega)
    have eL : (Int32.ofNat L - 6).toInt = (L : Int) - 6 := by
      have e0 : (Int32.ofNat L).toInt = (L : Int) := z_nI (by omega)
      have e6 : (6 : Int32).toInt = 6 := by decide
      rw [z_sub (by rw [e0, e6]; omega) (by rw [e0, e6]; omega), e0, e6]
    refine lv_iload (pc := 23) hx hb d_law_23 (lv_at hl 0 rfl) ?_
    refine lv_aload_n (pc := 25) hx hb d_law_25 rfl (lv_at hl 1 rfl) ?_
    refine va_slen (pc := 26) hx hb hX hbl hbA hS d_law_26 ?_
    refine lv_bipush (pc := 27) (v := 6) hx hb d_law_27 (by decide) ?_
    refine lv_isub (pc := 29) hx hb d_law_29 ?_
    refine lv_icmp_gt (pc := 30) (tgt := 843) hx hb d_law_30 (by decide) (fun hc => ?_) (fun hc => ?_)
    · refine W.widen (k := 1089) (n := 9371) (by omega) (by omega) ?_
      refine va_forget (fun q hq => (hS.2.2 q hq).elim (had q.base) id) ?_
      refine lv_iconst (pc := 843) (v := 1) hx hb d_law_843 (by decide) ?_
      exact lw_ret hx hb hr hlocks d_law_844
    · have hle : 6 * k + 6 ≤ L := by
        have : ¬ (Int32.ofNat L - 6).toInt < (nI (6 * k)).toInt := fun z => hc (z_lt.mpr z)
        rw [ei, eL] at this; omega
      have kk : ∀ (σ : MI) (τ : ML) (H : Heap) (locs : List Loc) (ls : Array Slot), CPL σ → va_P D classes (xw ad ci cl σ τ) H → va_D (gA (xa ad) s.heap.size) (xw ad ci cl σ τ) → va_S (gA (xa ad) s.heap.size) s.heap H locs → lv_has ls 7 (ll ad b (6 * k)) → W p l e room_1 s m #[Value.ref b] below meth c H locs (47 + k + 1) (1071 + 6 * k + 6) (lw_Z below #[Value.ref b] s) (F0 m 837 ls []) := by
        intro σ τ H locs ls h hP hD hS hl
        refine lv_iinc (pc := 837) (k := 0) (v := nI (6 * (k + 1))) hx hb d_law_837 hl rfl ?_ (by decide) rfl (fun ls hl => ?_)
        · have e6 : (Int32.ofInt 6).toInt = 6 := by decide
          rw [z_eq, z_add (by rw [ei, e6]; omega) (by rw [ei, e6]; omega), ei, e6, z_nI (by omega)]; omega
        refine lv_goto (pc := 840) (tgt := 23) hx hb d_law_840 (by decide) ?_
        exact ih (k + 1) (by omega) (by omega) σ τ H locs ls h hP hD hS hl
      refine lv_aload_n (pc := 33) hx hb d_law_33 rfl (lv_at hl 1 rfl) ?_
      refine lv_iload (pc := 34) hx hb d_law_34 (lv_at hl 0 rfl) ?_
      refine va_sld (pc := 36) hx hb hX hbl hbA hS (z_in.mpr (by rw [ei]; omega)) d_law_36 ?_
      refine lv_bipush (pc := 37) (v := 15) hx hb d_law_37 (by decide) ?_
      refine lv_iand (pc := 39) hx hb d_law_39 ?_
      obtain ⟨j, hj, ej⟩ := z_and15 (xs (nI (6 * k)).toNatClampNeg)
      rw [ej]
      have hc1 : 47 + k + 1 ≤ 1089 := by omega
      have hc2 : 1071 + 6 * k + 6 ≤ 9371 := by omega
      have hout : ∀ x : Int32, x.toInt < 0 ∨ 12 < x.toInt → W p l e room_1 s m #[Value.ref b] below meth c H locs (47 + k) (1071 + 6 * k) (lw_Z below #[Value.ref b] s) (F0 m 40 ls [.int x]) := fun x hx1 =>
        lv_tableOut (pc := 40) (tgt := 837) hx hb d_law_40 hx1 (by decide) (W.widen (k := 47 + k + 1) (n := 1071 + 6 * k + 6) (by omega) (by omega) (kk σ τ H locs ls h hP hD hS hl0))
      have hj2 : j = 0 ∨ j = 1 ∨ j = 2 ∨ j = 3 ∨ j = 4 ∨ j = 5 ∨ j = 6 ∨ j = 7 ∨ j = 8 ∨ j = 9 ∨ j = 10 ∨ j = 11 ∨ j = 12 ∨ 12 < j := by omega
      rcases hj2 with rfl | rfl | rfl | rfl | rfl | rfl | rfl | rfl | rfl | rfl | rfl | rfl | rfl | hj2
      · exact lv_tableIn (pc := 40) (tgt := 108) (off := 68) hx hb d_law_40 (by decide) (by decide) (by decide) (by decide) (lw_person hlt K h hP hD hS hl0 hle hc1 hc2 kk)
      · exact lv_tableIn (pc := 40) (tgt := 200) (off := 160) hx hb d_law_40 (by decide) (by decide) (by decide) (by decide) (lw_tug hlt K h hP hD hS hl0 hle hc1 hc2 kk)
      · exact lv_tableIn (pc := 40) (tgt := 256) (off := 216) hx hb d_law_40 (by decide) (by decide) (by decide) (by decide) (lw_job hlt K h hP hD hS hl0 hle hc1 hc2 kk)
      · exact lv_tableIn (pc := 40) (tgt := 360) (off := 320) hx hb d_law_40 (by decide) (by decide) (by decide) (by decide) (lw_travels hlt K h hP hD hS hl0 hle hc1 hc2 kk)
      · exact lv_tableIn (pc := 40) (tgt := 409) (off := 369) hx hb d_law_40 (by decide) (by decide) (by decide) (by decide) (lw_rest hlt K h hP hD hS hl0 hle hc1 hc2 kk)
      · exact lv_tableIn (pc := 40) (tgt := 434) (off := 394) hx hb d_law_40 (by decide) (by decide) (by decide) (by decide) (lw_rule hlt K h hP hD hS hl0 hle hc1 hc2 kk)
      · exact lv_tableIn (pc := 40) (tgt := 471) (off := 431) hx hb d_law_40 (by decide) (by decide) (by decide) (by decide) (lw_assign hlt K h hP hD hS hl0 hle hc1 hc2 kk)
      · exact lv_tableIn (pc := 40) (tgt := 484) (off := 444) hx hb d_law_40 (by decide) (by decide) (by decide) (by decide) (lw_of hlt K h hP hD hS hl0 hle hc1 hc2 kk)
      · exact lv_tableIn (pc := 40) (tgt := 552) (off := 512) hx hb d_law_40 (by decide) (by decide) (by decide) (by decide) (lw_late hlt K h hP hD hS hl0 hle hc1 hc2 kk)
      · exact lv_tableIn (pc := 40) (tgt := 620) (off := 580) hx hb d_law_40 (by decide) (by decide) (by decide) (by decide) (lw_day hlt K h hP hD hS hl0 hle hc1 hc2 kk)
      · exact lv_tableIn (pc := 40) (tgt := 688) (off := 648) hx hb d_law_40 (by decide) (by decide) (by decide) (by decide) (lw_waits hlt K h hP hD hS hl0 hle hc1 hc2 kk)
      · exact lv_tableIn (pc := 40) (tgt := 744) (off := 704) hx hb d_law_40 (by decide) (by decide) (by decide) (by decide) (lw_share hlt K h hP hD hS hl0 hle hc1 hc2 kk)
      · exact lv_tableIn (pc := 40) (tgt := 812) (off := 772) hx hb d_law_40 (by decide) (by decide) (by decide) (by decide) (lw_count hlt K h hP hD hS hl0 hle hc1 hc2 kk)
      · exact hout _ (Or.inr (by rw [z_nI (by omega)]; omega))
end LWL

