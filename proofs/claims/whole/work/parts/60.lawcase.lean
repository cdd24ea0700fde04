section LWC
variable {p : Program} {l : Launch} {e : Env} {s : State} {m : MethodId} {below : List Frame} {meth : Method} {c : Code} {H : Heap} {locs : List Loc} {cells slots : Nat} {Q : State → Prop}
variable {D : va_G} {ad : Nat → Nat} {ci cl : ClassId} {b L i : Nat} {xs : Nat → Int32} {σ : MI} {τ : ML} {ls : Array Slot}
theorem lw_person (hlt : l.flags = flags0) (K : LC p s m meth c b L xs ad D ci cl) (h : CPL σ) (hP : va_P D classes (xw ad ci cl σ τ) H) (hD : va_D (gA (xa ad) s.heap.size) (xw ad ci cl σ τ)) (hS : va_S (gA (xa ad) s.heap.size) s.heap H locs) (hl : lv_has ls 7 (ll ad b i)) (hij : i + 6 ≤ L) (hc1 : cells + 1 ≤ 1089) (hc2 : slots + 6 ≤ 9371)
    (kk : ∀ (σ : MI) (τ : ML) (H : Heap) (locs : List Loc) (ls : Array Slot), CPL σ → va_P D classes (xw ad ci cl σ τ) H → va_D (gA (xa ad) s.heap.size) (xw ad ci cl σ τ) → va_S (gA (xa ad) s.heap.size) s.heap H locs → lv_has ls 7 (ll ad b i) → W p l e room_1 s m #[Value.ref b] below meth c H locs (cells + 1) (slots + 6) Q (F0 m 837 ls [])) : W p l e room_1 s m #[Value.ref b] below meth c H locs cells slots Q (F0 m 108 ls []) := by
  obtain ⟨⟨hx, hb, -, hml, hown, hts, hX, hbl, -, -⟩, hK, hXT, hst, hbA, hL⟩ := id K
  have htB : ∀ w ∈ TB, w.before #[Value.ref b] s = true := fun w h => hts w (in_TB w h)
  have hl : lv_has ls 7 [(4, .int (nI i)), (0, .ref b), (1, .ref (ad 0)), (2, .ref (ad 29)), (3, .ref (ad 28))] := hl
  refine lv_aload_n (pc := 108) hx hb d_law_108 rfl (lv_at hl 2 rfl) ?_
  refine lw_arg (pc := 109) K hS a_law_109 (by decide) hij (lv_at hl 1 rfl) (lv_at hl 0 rfl) ?_
  refine lw_arg (pc := 115) K hS a_law_115 (by decide) hij (lv_at hl 1 rfl) (lv_at hl 0 rfl) ?_
  refine lw_arg (pc := 121) K hS a_law_121 (by decide) hij (lv_at hl 1 rfl) (lv_at hl 0 rfl) ?_
  refine lw_arg (pc := 127) K hS a_law_127 (by decide) hij (lv_at hl 1 rfl) (lv_at hl 0 rfl) ?_
  refine lv_aload_n (pc := 133) hx hb d_law_133 rfl (lv_at hl 4 rfl) ?_
  refine gw_callS (pc := 134) (As := [.ref (ad 0), .int (xs (i + 1)), .int (xs (i + 2)), .int (xs (i + 3)), .int (xs (i + 4)), .ref (ad 28)]) (rest := []) hx hb hml hown (c_Law_person l hlt D ad ci cl _ σ τ (xs (i + 1)) (xs (i + 2)) (xs (i + 3)) (xs (i + 4)) (h.1)) (hts _ tl_l_Law_person) (hts _ tl_s_Law_person) (hts _ tl_z_Law) (hts _ tl_c_Law_person) (gl_goodW hts tl_c_Law_person (by decide +kernel) rfl) (by decide) (n := 6) (by decide +kernel) (Nat.le_of_ble_eq_true rfl) (Nat.le_of_ble_eq_true rfl) rfl rfl hK hP hD hS hXT hst rfl hl.1 rfl (lv_room (Nat.le_of_ble_eq_true rfl)) d_law_134 ⟨hc1, hc2⟩ (fun k σ1 τ1 H locs hq hP hD hS => ?_)
  obtain ⟨h1, h2⟩ := cp_person h hq
  refine lv_istore (pc := 137) hx hb d_law_137 hl (by decide) rfl (fun ls hl => ?_)
  have hl : lv_has ls 7 [(5, .int k), (4, .int (nI i)), (0, .ref b), (1, .ref (ad 0)), (2, .ref (ad 29)), (3, .ref (ad 28))] := hl
  refine lv_aload_n (pc := 139) hx hb d_law_139 rfl (lv_at hl 4 rfl) ?_
  refine lw_arg (pc := 140) K hS a_law_140 (by decide) hij (lv_at hl 2 rfl) (lv_at hl 1 rfl) ?_
  refine lw_arg (pc := 146) K hS a_law_146 (by decide) hij (lv_at hl 2 rfl) (lv_at hl 1 rfl) ?_
  refine lw_arg (pc := 152) K hS a_law_152 (by decide) hij (lv_at hl 2 rfl) (lv_at hl 1 rfl) ?_
  refine lw_arg (pc := 158) K hS a_law_158 (by decide) hij (lv_at hl 2 rfl) (lv_at hl 1 rfl) ?_
  refine gk_callVi (pc := 164) (As := [.int (xs (i + 1)), .int (xs (i + 2)), .int (xs (i + 3)), .int (xs (i + 4))]) (rest := []) (b := ad 29) ⟨hx, hb, hml, hown, htB⟩ (c_Mo_person l D ad ci cl _ σ1 τ1 (xs (i + 1)) (xs (i + 2)) (xs (i + 3)) (xs (i + 4)) h1) ⟨callB_of 4 hts (gl_good tl_c_Mo_person (by decide +kernel) rfl) rfl rfl rfl (hts _ tl_z_Mo) (hts _ tl_l_Mo_person) (by decide +kernel) ⟨Nat.le_of_ble_eq_true rfl, Nat.le_of_ble_eq_true rfl⟩, hts _ tl_i_Mo_person, hts _ tl_s_Mo_person⟩ hK hP hD hS (va_recv hK hP (ci := 7) (q0 := 29) rfl rfl) rfl hl.1 rfl (lv_room (Nat.le_of_ble_eq_true rfl)) d_law_164 ⟨hc1, hc2⟩ (fun v σ2 τ2 H locs hq2 hP hD hS => ?_)
  obtain ⟨e1, e2, h3⟩ := h2 v σ2 τ2 hq2
  exact lw_tail (t := 167) K t_law_167 hP hD hS hl e1 e2 ⟨hc1, hc2⟩ (fun H locs ls hP hD hS hl => kk σ2 τ2 H locs ls h3 hP hD hS hl)
theorem lw_tug (hlt : l.flags = flags0) (K : LC p s m meth c b L xs ad D ci cl) (h : CPL σ) (hP : va_P D classes (xw ad ci cl σ τ) H) (hD : va_D (gA (xa ad) s.heap.size) (xw ad ci cl σ τ)) (hS : va_S (gA (xa ad) s.heap.size) s.heap H locs) (hl : lv_has ls 7 (ll ad b i)) (hij : i + 6 ≤ L) (hc1 : cells + 1 ≤ 1089) (hc2 : slots + 6 ≤ 9371)
    (kk : ∀ (σ : MI) (τ : ML) (H : Heap) (locs : List Loc) (ls : Array Slot), CPL σ → va_P D classes (xw ad ci cl σ τ) H → va_D (gA (xa ad) s.heap.size) (xw ad ci cl σ τ) → va_S (gA (xa ad) s.heap.size) s.heap H locs → lv_has ls 7 (ll ad b i) → W p l e room_1 s m #[Value.ref b] below meth c H locs (cells + 1) (slots + 6) Q (F0 m 837 ls [])) : W p l e room_1 s m #[Value.ref b] below meth c H locs cells slots Q (F0 m 200 ls []) := by
  obtain ⟨⟨hx, hb, -, hml, hown, hts, hX, hbl, -, -⟩, hK, hXT, hst, hbA, hL⟩ := id K
  have htB : ∀ w ∈ TB, w.before #[Value.ref b] s = true := fun w h => hts w (in_TB w h)
  have hl : lv_has ls 7 [(4, .int (nI i)), (0, .ref b), (1, .ref (ad 0)), (2, .ref (ad 29)), (3, .ref (ad 28))] := hl
  refine lv_aload_n (pc := 200) hx hb d_law_200 rfl (lv_at hl 2 rfl) ?_
  refine lw_arg (pc := 201) K hS a_law_201 (by decide) hij (lv_at hl 1 rfl) (lv_at hl 0 rfl) ?_
  refine lv_aload_n (pc := 207) hx hb d_law_207 rfl (lv_at hl 4 rfl) ?_
  refine gw_callS (pc := 208) (As := [.ref (ad 0), .int (xs (i + 1)), .ref (ad 28)]) (rest := []) hx hb hml hown (c_Law_tug l hlt D ad ci cl _ σ τ (xs (i + 1)) (h.1)) (hts _ tl_l_Law_tug) (hts _ tl_s_Law_tug) (hts _ tl_z_Law) (hts _ tl_c_Law_tug) (gl_goodW hts tl_c_Law_tug (by decide +kernel) rfl) (by decide) (n := 3) (by decide +kernel) (Nat.le_of_ble_eq_true rfl) (Nat.le_of_ble_eq_true rfl) rfl rfl hK hP hD hS hXT hst rfl hl.1 rfl (lv_room (Nat.le_of_ble_eq_true rfl)) d_law_208 ⟨hc1, hc2⟩ (fun k σ1 τ1 H locs hq hP hD hS => ?_)
  obtain ⟨h1, h2⟩ := cp_tug h hq
  refine lv_istore (pc := 211) hx hb d_law_211 hl (by decide) rfl (fun ls hl => ?_)
  have hl : lv_has ls 7 [(5, .int k), (4, .int (nI i)), (0, .ref b), (1, .ref (ad 0)), (2, .ref (ad 29)), (3, .ref (ad 28))] := hl
  refine lv_aload_n (pc := 213) hx hb d_law_213 rfl (lv_at hl 4 rfl) ?_
  refine lw_arg (pc := 214) K hS a_law_214 (by decide) hij (lv_at hl 2 rfl) (lv_at hl 1 rfl) ?_
  refine gk_callVi (pc := 220) (As := [.int (xs (i + 1))]) (rest := []) (b := ad 29) ⟨hx, hb, hml, hown, htB⟩ (c_Mo_tug l D ad ci cl _ σ1 τ1 (xs (i + 1)) h1) ⟨callB_of 1 hts (gl_good tl_c_Mo_tug (by decide +kernel) rfl) rfl rfl rfl (hts _ tl_z_Mo) (hts _ tl_l_Mo_tug) (by decide +kernel) ⟨Nat.le_of_ble_eq_true rfl, Nat.le_of_ble_eq_true rfl⟩, hts _ tl_i_Mo_tug, hts _ tl_s_Mo_tug⟩ hK hP hD hS (va_recv hK hP (ci := 7) (q0 := 29) rfl rfl) rfl hl.1 rfl (lv_room (Nat.le_of_ble_eq_true rfl)) d_law_220 ⟨hc1, hc2⟩ (fun v σ2 τ2 H locs hq2 hP hD hS => ?_)
  obtain ⟨e1, e2, h3⟩ := h2 v σ2 τ2 hq2
  exact lw_tail (t := 223) K t_law_223 hP hD hS hl e1 e2 ⟨hc1, hc2⟩ (fun H locs ls hP hD hS hl => kk σ2 τ2 H locs ls h3 hP hD hS hl)
theorem lw_job (hlt : l.flags = flags0) (K : LC p s m meth c b L xs ad D ci cl) (h : CPL σ) (hP : va_P D classes (xw ad ci cl σ τ) H) (hD : va_D (gA (xa ad) s.heap.size) (xw ad ci cl σ τ)) (hS : va_S (gA (xa ad) s.heap.size) s.heap H locs) (hl : lv_has ls 7 (ll ad b i)) (hij : i + 6 ≤ L) (hc1 : cells + 1 ≤ 1089) (hc2 : slots + 6 ≤ 9371)
    (kk : ∀ (σ : MI) (τ : ML) (H : Heap) (locs : List Loc) (ls : Array Slot), CPL σ → va_P D classes (xw ad ci cl σ τ) H → va_D (gA (xa ad) s.heap.size) (xw ad ci cl σ τ) → va_S (gA (xa ad) s.heap.size) s.heap H locs → lv_has ls 7 (ll ad b i) → W p l e room_1 s m #[Value.ref b] below meth c H locs (cells + 1) (slots + 6) Q (F0 m 837 ls [])) : W p l e room_1 s m #[Value.ref b] below meth c H locs cells slots Q (F0 m 256 ls []) := by
  obtain ⟨⟨hx, hb, -, hml, hown, hts, hX, hbl, -, -⟩, hK, hXT, hst, hbA, hL⟩ := id K
  have htB : ∀ w ∈ TB, w.before #[Value.ref b] s = true := fun w h => hts w (in_TB w h)
  have hl : lv_has ls 7 [(4, .int (nI i)), (0, .ref b), (1, .ref (ad 0)), (2, .ref (ad 29)), (3, .ref (ad 28))] := hl
  refine lv_aload_n (pc := 256) hx hb d_law_256 rfl (lv_at hl 2 rfl) ?_
  refine lw_arg (pc := 257) K hS a_law_257 (by decide) hij (lv_at hl 1 rfl) (lv_at hl 0 rfl) ?_
  refine lw_arg (pc := 263) K hS a_law_263 (by decide) hij (lv_at hl 1 rfl) (lv_at hl 0 rfl) ?_
  refine lw_arg (pc := 269) K hS a_law_269 (by decide) hij (lv_at hl 1 rfl) (lv_at hl 0 rfl) ?_
  refine lw_arg (pc := 275) K hS a_law_275 (by decide) hij (lv_at hl 1 rfl) (lv_at hl 0 rfl) ?_
  refine lw_arg (pc := 281) K hS a_law_281 (by decide) hij (lv_at hl 1 rfl) (lv_at hl 0 rfl) ?_
  refine lv_aload_n (pc := 287) hx hb d_law_287 rfl (lv_at hl 4 rfl) ?_
  refine gw_callS (pc := 288) (As := [.ref (ad 0), .int (xs (i + 1)), .int (xs (i + 2)), .int (xs (i + 3)), .int (xs (i + 4)), .int (xs (i + 5)), .ref (ad 28)]) (rest := []) hx hb hml hown (c_Law_job l hlt D ad ci cl _ σ τ (xs (i + 1)) (xs (i + 2)) (xs (i + 3)) (xs (i + 4)) (xs (i + 5)) (h.1)) (hts _ tl_l_Law_job) (hts _ tl_s_Law_job) (hts _ tl_z_Law) (hts _ tl_c_Law_job) (gl_goodW hts tl_c_Law_job (by decide +kernel) rfl) (by decide) (n := 7) (by decide +kernel) (Nat.le_of_ble_eq_true rfl) (Nat.le_of_ble_eq_true rfl) rfl rfl hK hP hD hS hXT hst rfl hl.1 rfl (lv_room (Nat.le_of_ble_eq_true rfl)) d_law_288 ⟨hc1, hc2⟩ (fun k σ1 τ1 H locs hq hP hD hS => ?_)
  obtain ⟨h1, h2⟩ := cp_job h hq
  refine lv_istore (pc := 291) hx hb d_law_291 hl (by decide) rfl (fun ls hl => ?_)
  have hl : lv_has ls 7 [(5, .int k), (4, .int (nI i)), (0, .ref b), (1, .ref (ad 0)), (2, .ref (ad 29)), (3, .ref (ad 28))] := hl
  refine lv_aload_n (pc := 293) hx hb d_law_293 rfl (lv_at hl 4 rfl) ?_
  refine lw_arg (pc := 294) K hS a_law_294 (by decide) hij (lv_at hl 2 rfl) (lv_at hl 1 rfl) ?_
  refine lw_arg (pc := 300) K hS a_law_300 (by decide) hij (lv_at hl 2 rfl) (lv_at hl 1 rfl) ?_
  refine lw_arg (pc := 306) K hS a_law_306 (by decide) hij (lv_at hl 2 rfl) (lv_at hl 1 rfl) ?_
  refine lw_arg (pc := 312) K hS a_law_312 (by decide) hij (lv_at hl 2 rfl) (lv_at hl 1 rfl) ?_
  refine lw_arg (pc := 318) K hS a_law_318 (by decide) hij (lv_at hl 2 rfl) (lv_at hl 1 rfl) ?_
  refine gk_callVi (pc := 324) (As := [.int (xs (i + 1)), .int (xs (i + 2)), .int (xs (i + 3)), .int (xs (i + 4)), .int (xs (i + 5))]) (rest := []) (b := ad 29) ⟨hx, hb, hml, hown, htB⟩ (c_Mo_job l D ad ci cl _ σ1 τ1 (xs (i + 1)) (xs (i + 2)) (xs (i + 3)) (xs (i + 4)) (xs (i + 5)) h1) ⟨callB_of 5 hts (gl_good tl_c_Mo_job (by decide +kernel) rfl) rfl rfl rfl (hts _ tl_z_Mo) (hts _ tl_l_Mo_job) (by decide +kernel) ⟨Nat.le_of_ble_eq_true rfl, Nat.le_of_ble_eq_true rfl⟩, hts _ tl_i_Mo_job, hts _ tl_s_Mo_job⟩ hK hP hD hS (va_recv hK hP (ci := 7) (q0 := 29) rfl rfl) rfl hl.1 rfl (lv_room (Nat.le_of_ble_eq_true rfl)) d_law_324 ⟨hc1, hc2⟩ (fun v σ2 τ2 H locs hq2 hP hD hS => ?_)
  obtain ⟨e1, e2, h3⟩ := h2 v σ2 τ2 hq2
  exact lw_tail (t := 327) K t_law_327 hP hD hS hl e1 e2 ⟨hc1, hc2⟩ (fun H locs ls hP hD hS hl => kk σ2 τ2 H locs ls h3 hP hD hS hl)
theorem lw_travels (hlt : l.flags = flags0) (K : LC p s m meth c b L xs ad D ci cl) (h : CPL σ) (hP : va_P D classes (xw ad ci cl σ τ) H) (hD : va_D (gA (xa ad) s.heap.size) (xw ad ci cl σ τ)) (hS : va_S (gA (xa ad) s.heap.size) s.heap H locs) (hl : lv_has ls 7 (ll ad b i)) (hij : i + 6 ≤ L) (hc1 : cells + 1 ≤ 1089) (hc2 : slots + 6 ≤ 9371)
    (kk : ∀ (σ : MI) (τ : ML) (H : Heap) (locs : List Loc) (ls : Array Slot), CPL σ → va_P D classes (xw ad ci cl σ τ) H → va_D (gA (xa ad) s.heap.size) (xw ad ci cl σ τ) → va_S (gA (xa ad) s.heap.size) s.heap H locs → lv_has ls 7 (ll ad b i) → W p l e room_1 s m #[Value.ref b] below meth c H locs (cells + 1) (slots + 6) Q (F0 m 837 ls [])) : W p l e room_1 s m #[Value.ref b] below meth c H locs cells slots Q (F0 m 360 ls []) := by
  obtain ⟨⟨hx, hb, -, hml, hown, hts, hX, hbl, -, -⟩, hK, hXT, hst, hbA, hL⟩ := id K
  have htB : ∀ w ∈ TB, w.before #[Value.ref b] s = true := fun w h => hts w (in_TB w h)
  have hl : lv_has ls 7 [(4, .int (nI i)), (0, .ref b), (1, .ref (ad 0)), (2, .ref (ad 29)), (3, .ref (ad 28))] := hl
  refine lv_aload_n (pc := 360) hx hb d_law_360 rfl (lv_at hl 2 rfl) ?_
  refine lw_arg (pc := 361) K hS a_law_361 (by decide) hij (lv_at hl 1 rfl) (lv_at hl 0 rfl) ?_
  refine lw_arg (pc := 367) K hS a_law_367 (by decide) hij (lv_at hl 1 rfl) (lv_at hl 0 rfl) ?_
  refine lw_arg (pc := 373) K hS a_law_373 (by decide) hij (lv_at hl 1 rfl) (lv_at hl 0 rfl) ?_
  refine gk_callVi (pc := 379) (As := [.int (xs (i + 1)), .int (xs (i + 2)), .int (xs (i + 3))]) (rest := []) (b := ad 0) ⟨hx, hb, hml, hown, htB⟩ (c_PT_travels l D ad ci cl _ σ τ (xs (i + 1)) (xs (i + 2)) (xs (i + 3)) (trivial)) ⟨callB_of 3 hts (gl_good tl_c_PT_travels (by decide +kernel) rfl) rfl rfl rfl (hts _ tl_z_PT) (hts _ tl_l_PT_travels) (by decide +kernel) ⟨Nat.le_of_ble_eq_true rfl, Nat.le_of_ble_eq_true rfl⟩, hts _ tl_i_PT_travels, hts _ tl_s_PT_travels⟩ hK hP hD hS (va_recv hK hP (ci := 6) (q0 := 0) rfl rfl) rfl hl.1 rfl (lv_room (Nat.le_of_ble_eq_true rfl)) d_law_379 ⟨Nat.le_of_succ_le hc1, by show slots ≤ 9371; omega⟩ (fun r σ1 τ1 H locs hq hP hD hS => ?_)
  have h2 := cp_travels h hq
  refine lv_aload_n (pc := 382) hx hb d_law_382 rfl (lv_at hl 3 rfl) ?_
  refine lw_arg (pc := 383) K hS a_law_383 (by decide) hij (lv_at hl 1 rfl) (lv_at hl 0 rfl) ?_
  refine lw_arg (pc := 389) K hS a_law_389 (by decide) hij (lv_at hl 1 rfl) (lv_at hl 0 rfl) ?_
  refine lw_arg (pc := 395) K hS a_law_395 (by decide) hij (lv_at hl 1 rfl) (lv_at hl 0 rfl) ?_
  refine gk_callVi (pc := 401) (As := [.int (xs (i + 1)), .int (xs (i + 2)), .int (xs (i + 3))]) (rest := [.int r]) (b := ad 29) ⟨hx, hb, hml, hown, htB⟩ (c_Mo_travels l D ad ci cl _ σ1 τ1 (xs (i + 1)) (xs (i + 2)) (xs (i + 3)) trivial) ⟨callB_of 3 hts (gl_good tl_c_Mo_travels (by decide +kernel) rfl) rfl rfl rfl (hts _ tl_z_Mo) (hts _ tl_l_Mo_travels) (by decide +kernel) ⟨Nat.le_of_ble_eq_true rfl, Nat.le_of_ble_eq_true rfl⟩, hts _ tl_i_Mo_travels, hts _ tl_s_Mo_travels⟩ hK hP hD hS (va_recv hK hP (ci := 7) (q0 := 29) rfl rfl) rfl hl.1 rfl (lv_room (Nat.le_of_ble_eq_true rfl)) d_law_401 ⟨Nat.le_of_succ_le hc1, by show slots ≤ 9371; omega⟩ (fun v σ2 τ2 H locs hq2 hP hD hS => ?_)
  obtain ⟨e1, h3⟩ := h2 v σ2 τ2 hq2
  refine lv_icmp_eq (pc := 404) (tgt := 837) hx hb d_law_404 (by decide) (fun _ => ?_) (fun hc => absurd e1 hc)
  exact W.widen (k := cells + 1) (n := slots + 6) (by omega) (by omega) (kk σ2 τ2 H locs ls h3 hP hD hS hl)
theorem lw_rest (hlt : l.flags = flags0) (K : LC p s m meth c b L xs ad D ci cl) (h : CPL σ) (hP : va_P D classes (xw ad ci cl σ τ) H) (hD : va_D (gA (xa ad) s.heap.size) (xw ad ci cl σ τ)) (hS : va_S (gA (xa ad) s.heap.size) s.heap H locs) (hl : lv_has ls 7 (ll ad b i)) (hij : i + 6 ≤ L) (hc1 : cells + 1 ≤ 1089) (hc2 : slots + 6 ≤ 9371)
    (kk : ∀ (σ : MI) (τ : ML) (H : Heap) (locs : List Loc) (ls : Array Slot), CPL σ → va_P D classes (xw ad ci cl σ τ) H → va_D (gA (xa ad) s.heap.size) (xw ad ci cl σ τ) → va_S (gA (xa ad) s.heap.size) s.heap H locs → lv_has ls 7 (ll ad b i) → W p l e room_1 s m #[Value.ref b] below meth c H locs (cells + 1) (slots + 6) Q (F0 m 837 ls [])) : W p l e room_1 s m #[Value.ref b] below meth c H locs cells slots Q (F0 m 409 ls []) := by
  obtain ⟨⟨hx, hb, -, hml, hown, hts, hX, hbl, -, -⟩, hK, hXT, hst, hbA, hL⟩ := id K
  have htB : ∀ w ∈ TB, w.before #[Value.ref b] s = true := fun w h => hts w (in_TB w h)
  have hl : lv_has ls 7 [(4, .int (nI i)), (0, .ref b), (1, .ref (ad 0)), (2, .ref (ad 29)), (3, .ref (ad 28))] := hl
  refine lv_aload_n (pc := 409) hx hb d_law_409 rfl (lv_at hl 2 rfl) ?_
  refine lw_arg (pc := 410) K hS a_law_410 (by decide) hij (lv_at hl 1 rfl) (lv_at hl 0 rfl) ?_
  refine gk_callVi (pc := 416) (As := [.int (xs (i + 1))]) (rest := []) (b := ad 0) ⟨hx, hb, hml, hown, htB⟩ (c_PT_rest l D ad ci cl _ σ τ (xs (i + 1)) (trivial)) ⟨callB_of 1 hts (gl_good tl_c_PT_rest (by decide +kernel) rfl) rfl rfl rfl (hts _ tl_z_PT) (hts _ tl_l_PT_rest) (by decide +kernel) ⟨Nat.le_of_ble_eq_true rfl, Nat.le_of_ble_eq_true rfl⟩, hts _ tl_i_PT_rest, hts _ tl_s_PT_rest⟩ hK hP hD hS (va_recv hK hP (ci := 6) (q0 := 0) rfl rfl) rfl hl.1 rfl (lv_room (Nat.le_of_ble_eq_true rfl)) d_law_416 ⟨Nat.le_of_succ_le hc1, by show slots ≤ 9371; omega⟩ (fun r σ1 τ1 H locs hq hP hD hS => ?_)
  have h2 := cp_rest h hq
  refine lv_aload_n (pc := 419) hx hb d_law_419 rfl (lv_at hl 3 rfl) ?_
  refine lw_arg (pc := 420) K hS a_law_420 (by decide) hij (lv_at hl 1 rfl) (lv_at hl 0 rfl) ?_
  refine gk_callVi (pc := 426) (As := [.int (xs (i + 1))]) (rest := [.int r]) (b := ad 29) ⟨hx, hb, hml, hown, htB⟩ (c_Mo_rest l D ad ci cl _ σ1 τ1 (xs (i + 1)) trivial) ⟨callB_of 1 hts (gl_good tl_c_Mo_rest (by decide +kernel) rfl) rfl rfl rfl (hts _ tl_z_Mo) (hts _ tl_l_Mo_rest) (by decide +kernel) ⟨Nat.le_of_ble_eq_true rfl, Nat.le_of_ble_eq_true rfl⟩, hts _ tl_i_Mo_rest, hts _ tl_s_Mo_rest⟩ hK hP hD hS (va_recv hK hP (ci := 7) (q0 := 29) rfl rfl) rfl hl.1 rfl (lv_room (Nat.le_of_ble_eq_true rfl)) d_law_426 ⟨Nat.le_of_succ_le hc1, by show slots ≤ 9371; omega⟩ (fun v σ2 τ2 H locs hq2 hP hD hS => ?_)
  obtain ⟨e1, h3⟩ := h2 v σ2 τ2 hq2
  refine lv_icmp_eq (pc := 429) (tgt := 837) hx hb d_law_429 (by decide) (fun _ => ?_) (fun hc => absurd e1 hc)
  exact W.widen (k := cells + 1) (n := slots + 6) (by omega) (by omega) (kk σ2 τ2 H locs ls h3 hP hD hS hl)
theorem lw_rule (hlt : l.flags = flags0) (K : LC p s m meth c b L xs ad D ci cl) (h : CPL σ) (hP : va_P D classes (xw ad ci cl σ τ) H) (hD : va_D (gA (xa ad) s.heap.size) (xw ad ci cl σ τ)) (hS : va_S (gA (xa ad) s.heap.size) s.heap H locs) (hl : lv_has ls 7 (ll ad b i)) (hij : i + 6 ≤ L) (hc1 : cells + 1 ≤ 1089) (hc2 : slots + 6 ≤ 9371)
    (kk : ∀ (σ : MI) (τ : ML) (H : Heap) (locs : List Loc) (ls : Array Slot), CPL σ → va_P D classes (xw ad ci cl σ τ) H → va_D (gA (xa ad) s.heap.size) (xw ad ci cl σ τ) → va_S (gA (xa ad) s.heap.size) s.heap H locs → lv_has ls 7 (ll ad b i) → W p l e room_1 s m #[Value.ref b] below meth c H locs (cells + 1) (slots + 6) Q (F0 m 837 ls [])) : W p l e room_1 s m #[Value.ref b] below meth c H locs cells slots Q (F0 m 434 ls []) := by
  obtain ⟨⟨hx, hb, -, hml, hown, hts, hX, hbl, -, -⟩, hK, hXT, hst, hbA, hL⟩ := id K
  have htB : ∀ w ∈ TB, w.before #[Value.ref b] s = true := fun w h => hts w (in_TB w h)
  have hl : lv_has ls 7 [(4, .int (nI i)), (0, .ref b), (1, .ref (ad 0)), (2, .ref (ad 29)), (3, .ref (ad 28))] := hl
  refine lv_aload_n (pc := 434) hx hb d_law_434 rfl (lv_at hl 2 rfl) ?_
  refine lw_arg (pc := 435) K hS a_law_435 (by decide) hij (lv_at hl 1 rfl) (lv_at hl 0 rfl) ?_
  refine lw_arg (pc := 441) K hS a_law_441 (by decide) hij (lv_at hl 1 rfl) (lv_at hl 0 rfl) ?_
  refine gk_callVi (pc := 447) (As := [.int (xs (i + 1)), .int (xs (i + 2))]) (rest := []) (b := ad 0) ⟨hx, hb, hml, hown, htB⟩ (c_PT_rule l D ad ci cl _ σ τ (xs (i + 1)) (xs (i + 2)) (h.1)) ⟨callB_of 2 hts (gl_good tl_c_PT_rule (by decide +kernel) rfl) rfl rfl rfl (hts _ tl_z_PT) (hts _ tl_l_PT_rule) (by decide +kernel) ⟨Nat.le_of_ble_eq_true rfl, Nat.le_of_ble_eq_true rfl⟩, hts _ tl_i_PT_rule, hts _ tl_s_PT_rule⟩ hK hP hD hS (va_recv hK hP (ci := 6) (q0 := 0) rfl rfl) rfl hl.1 rfl (lv_room (Nat.le_of_ble_eq_true rfl)) d_law_447 ⟨Nat.le_of_succ_le hc1, by show slots ≤ 9371; omega⟩ (fun r σ1 τ1 H locs hq hP hD hS => ?_)
  obtain ⟨h1, h2⟩ := cp_rule h hq
  refine lv_aload_n (pc := 450) hx hb d_law_450 rfl (lv_at hl 3 rfl) ?_
  refine lw_arg (pc := 451) K hS a_law_451 (by decide) hij (lv_at hl 1 rfl) (lv_at hl 0 rfl) ?_
  refine lw_arg (pc := 457) K hS a_law_457 (by decide) hij (lv_at hl 1 rfl) (lv_at hl 0 rfl) ?_
  refine gk_callVi (pc := 463) (As := [.int (xs (i + 1)), .int (xs (i + 2))]) (rest := [.int r]) (b := ad 29) ⟨hx, hb, hml, hown, htB⟩ (c_Mo_rule l D ad ci cl _ σ1 τ1 (xs (i + 1)) (xs (i + 2)) h1) ⟨callB_of 2 hts (gl_good tl_c_Mo_rule (by decide +kernel) rfl) rfl rfl rfl (hts _ tl_z_Mo) (hts _ tl_l_Mo_rule) (by decide +kernel) ⟨Nat.le_of_ble_eq_true rfl, Nat.le_of_ble_eq_true rfl⟩, hts _ tl_i_Mo_rule, hts _ tl_s_Mo_rule⟩ hK hP hD hS (va_recv hK hP (ci := 7) (q0 := 29) rfl rfl) rfl hl.1 rfl (lv_room (Nat.le_of_ble_eq_true rfl)) d_law_463 ⟨Nat.le_of_succ_le hc1, by show slots ≤ 9371; omega⟩ (fun v σ2 τ2 H locs hq2 hP hD hS => ?_)
  obtain ⟨e1, h3⟩ := h2 v σ2 τ2 hq2
  refine lv_icmp_eq (pc := 466) (tgt := 837) hx hb d_law_466 (by decide) (fun _ => ?_) (fun hc => absurd e1 hc)
  exact W.widen (k := cells + 1) (n := slots + 6) (by omega) (by omega) (kk σ2 τ2 H locs ls h3 hP hD hS hl)
theorem lw_assign (hlt : l.flags = flags0) (K : LC p s m meth c b L xs ad D ci cl) (h : CPL σ) (hP : va_P D classes (xw ad ci cl σ τ) H) (hD : va_D (gA (xa ad) s.heap.size) (xw ad ci cl σ τ)) (hS : va_S (gA (xa ad) s.heap.size) s.heap H locs) (hl : lv_has ls 7 (ll ad b i)) (hij : i + 6 ≤ L) (hc1 : cells + 1 ≤ 1089) (hc2 : slots + 6 ≤ 9371)
    (kk : ∀ (σ : MI) (τ : ML) (H : Heap) (locs : List Loc) (ls : Array Slot), CPL σ → va_P D classes (xw ad ci cl σ τ) H → va_D (gA (xa ad) s.heap.size) (xw ad ci cl σ τ) → va_S (gA (xa ad) s.heap.size) s.heap H locs → lv_has ls 7 (ll ad b i) → W p l e room_1 s m #[Value.ref b] below meth c H locs (cells + 1) (slots + 6) Q (F0 m 837 ls [])) : W p l e room_1 s m #[Value.ref b] below meth c H locs cells slots Q (F0 m 471 ls []) := by
  obtain ⟨⟨hx, hb, -, hml, hown, hts, hX, hbl, -, -⟩, hK, hXT, hst, hbA, hL⟩ := id K
  have htB : ∀ w ∈ TB, w.before #[Value.ref b] s = true := fun w h => hts w (in_TB w h)
  have hl : lv_has ls 7 [(4, .int (nI i)), (0, .ref b), (1, .ref (ad 0)), (2, .ref (ad 29)), (3, .ref (ad 28))] := hl
  refine lv_aload_n (pc := 471) hx hb d_law_471 rfl (lv_at hl 2 rfl) ?_
  refine gk_callVi (pc := 472) (As := []) (rest := []) (b := ad 0) ⟨hx, hb, hml, hown, htB⟩ (c_PT_assign l D ad ci cl _ σ τ  (h.1)) ⟨callB_of 0 hts (gl_good tl_c_PT_assign (by decide +kernel) rfl) rfl rfl rfl (hts _ tl_z_PT) (hts _ tl_l_PT_assign) (by decide +kernel) ⟨Nat.le_of_ble_eq_true rfl, Nat.le_of_ble_eq_true rfl⟩, hts _ tl_i_PT_assign, hts _ tl_s_PT_assign⟩ hK hP hD hS (va_recv hK hP (ci := 6) (q0 := 0) rfl rfl) rfl hl.1 rfl (lv_room (Nat.le_of_ble_eq_true rfl)) d_law_472 ⟨Nat.le_of_succ_le hc1, by show slots ≤ 9371; omega⟩ (fun r σ1 τ1 H locs hq hP hD hS => ?_)
  obtain ⟨h1, h2⟩ := cp_assign h hq
  refine lv_aload_n (pc := 475) hx hb d_law_475 rfl (lv_at hl 3 rfl) ?_
  refine gk_callVi (pc := 476) (As := []) (rest := [.int r]) (b := ad 29) ⟨hx, hb, hml, hown, htB⟩ (c_Mo_assign l D ad ci cl _ σ1 τ1  h1) ⟨callB_of 0 hts (gl_good tl_c_Mo_assign (by decide +kernel) rfl) rfl rfl rfl (hts _ tl_z_Mo) (hts _ tl_l_Mo_assign) (by decide +kernel) ⟨Nat.le_of_ble_eq_true rfl, Nat.le_of_ble_eq_true rfl⟩, hts _ tl_i_Mo_assign, hts _ tl_s_Mo_assign⟩ hK hP hD hS (va_recv hK hP (ci := 7) (q0 := 29) rfl rfl) rfl hl.1 rfl (lv_room (Nat.le_of_ble_eq_true rfl)) d_law_476 ⟨Nat.le_of_succ_le hc1, by show slots ≤ 9371; omega⟩ (fun v σ2 τ2 H locs hq2 hP hD hS => ?_)
  obtain ⟨e1, h3⟩ := h2 v σ2 τ2 hq2
  refine lv_icmp_eq (pc := 479) (tgt := 837) hx hb d_law_479 (by decide) (fun _ => ?_) (fun hc => absurd e1 hc)
  exact W.widen (k := cells + 1) (n := slots + 6) (by omega) (by omega) (kk σ2 τ2 H locs ls h3 hP hD hS hl)
theorem lw_of (hlt : l.flags = flags0) (K : LC p s m meth c b L xs ad D ci cl) (h : CPL σ) (hP : va_P D classes (xw ad ci cl σ τ) H) (hD : va_D (gA (xa ad) s.heap.size) (xw ad ci cl σ τ)) (hS : va_S (gA (xa ad) s.heap.size) s.heap H locs) (hl : lv_has ls 7 (ll ad b i)) (hij : i + 6 ≤ L) (hc1 : cells + 1 ≤ 1089) (hc2 : slots + 6 ≤ 9371)
    (kk : ∀ (σ : MI) (τ : ML) (H : Heap) (locs : List Loc) (ls : Array Slot), CPL σ → va_P D classes (xw ad ci cl σ τ) H → va_D (gA (xa ad) s.heap.size) (xw ad ci cl σ τ) → va_S (gA (xa ad) s.heap.size) s.heap H locs → lv_has ls 7 (ll ad b i) → W p l e room_1 s m #[Value.ref b] below meth c H locs (cells + 1) (slots + 6) Q (F0 m 837 ls [])) : W p l e room_1 s m #[Value.ref b] below meth c H locs cells slots Q (F0 m 484 ls []) := by
  obtain ⟨⟨hx, hb, -, hml, hown, hts, hX, hbl, -, -⟩, hK, hXT, hst, hbA, hL⟩ := id K
  have htB : ∀ w ∈ TB, w.before #[Value.ref b] s = true := fun w h => hts w (in_TB w h)
  have hl : lv_has ls 7 [(4, .int (nI i)), (0, .ref b), (1, .ref (ad 0)), (2, .ref (ad 29)), (3, .ref (ad 28))] := hl
  refine lv_aload_n (pc := 484) hx hb d_law_484 rfl (lv_at hl 2 rfl) ?_
  refine lw_arg (pc := 485) K hS a_law_485 (by decide) hij (lv_at hl 1 rfl) (lv_at hl 0 rfl) ?_
  refine lw_arg (pc := 491) K hS a_law_491 (by decide) hij (lv_at hl 1 rfl) (lv_at hl 0 rfl) ?_
  refine lv_aload_n (pc := 497) hx hb d_law_497 rfl (lv_at hl 4 rfl) ?_
  refine gw_callS (pc := 498) (As := [.ref (ad 0), .int (xs (i + 1)), .int (xs (i + 2)), .ref (ad 28)]) (rest := []) hx hb hml hown (c_Law_of l hlt D ad ci cl _ σ τ (xs (i + 1)) (xs (i + 2)) (⟨h.1, fun z => (h.2.2 z).1⟩)) (hts _ tl_l_Law_of) (hts _ tl_s_Law_of) (hts _ tl_z_Law) (hts _ tl_c_Law_of) (gl_goodW hts tl_c_Law_of (by decide +kernel) rfl) (by decide) (n := 4) (by decide +kernel) (Nat.le_of_ble_eq_true rfl) (Nat.le_of_ble_eq_true rfl) rfl rfl hK hP hD hS hXT hst rfl hl.1 rfl (lv_room (Nat.le_of_ble_eq_true rfl)) d_law_498 ⟨hc1, hc2⟩ (fun k σ1 τ1 H locs hq hP hD hS => ?_)
  obtain ⟨h1, h2⟩ := cp_of h hq
  refine lv_istore (pc := 501) hx hb d_law_501 hl (by decide) rfl (fun ls hl => ?_)
  have hl : lv_has ls 7 [(5, .int k), (4, .int (nI i)), (0, .ref b), (1, .ref (ad 0)), (2, .ref (ad 29)), (3, .ref (ad 28))] := hl
  refine lv_aload_n (pc := 503) hx hb d_law_503 rfl (lv_at hl 4 rfl) ?_
  refine lw_arg (pc := 504) K hS a_law_504 (by decide) hij (lv_at hl 2 rfl) (lv_at hl 1 rfl) ?_
  refine lw_arg (pc := 510) K hS a_law_510 (by decide) hij (lv_at hl 2 rfl) (lv_at hl 1 rfl) ?_
  refine gk_callVi (pc := 516) (As := [.int (xs (i + 1)), .int (xs (i + 2))]) (rest := []) (b := ad 29) ⟨hx, hb, hml, hown, htB⟩ (c_Mo_of l D ad ci cl _ σ1 τ1 (xs (i + 1)) (xs (i + 2)) h1) ⟨callB_of 2 hts (gl_good tl_c_Mo_of (by decide +kernel) rfl) rfl rfl rfl (hts _ tl_z_Mo) (hts _ tl_l_Mo_of) (by decide +kernel) ⟨Nat.le_of_ble_eq_true rfl, Nat.le_of_ble_eq_true rfl⟩, hts _ tl_i_Mo_of, hts _ tl_s_Mo_of⟩ hK hP hD hS (va_recv hK hP (ci := 7) (q0 := 29) rfl rfl) rfl hl.1 rfl (lv_room (Nat.le_of_ble_eq_true rfl)) d_law_516 ⟨hc1, hc2⟩ (fun v σ2 τ2 H locs hq2 hP hD hS => ?_)
  obtain ⟨e1, e2, h3⟩ := h2 v σ2 τ2 hq2
  exact lw_tail (t := 519) K t_law_519 hP hD hS hl e1 e2 ⟨hc1, hc2⟩ (fun H locs ls hP hD hS hl => kk σ2 τ2 H locs ls h3 hP hD hS hl)
theorem lw_late (hlt : l.flags = flags0) (K : LC p s m meth c b L xs ad D ci cl) (h : CPL σ) (hP : va_P D classes (xw ad ci cl σ τ) H) (hD : va_D (gA (xa ad) s.heap.size) (xw ad ci cl σ τ)) (hS : va_S (gA (xa ad) s.heap.size) s.heap H locs) (hl : lv_has ls 7 (ll ad b i)) (hij : i + 6 ≤ L) (hc1 : cells + 1 ≤ 1089) (hc2 : slots + 6 ≤ 9371)
    (kk : ∀ (σ : MI) (τ : ML) (H : Heap) (locs : List Loc) (ls : Array Slot), CPL σ → va_P D classes (xw ad ci cl σ τ) H → va_D (gA (xa ad) s.heap.size) (xw ad ci cl σ τ) → va_S (gA (xa ad) s.heap.size) s.heap H locs → lv_has ls 7 (ll ad b i) → W p l e room_1 s m #[Value.ref b] below meth c H locs (cells + 1) (slots + 6) Q (F0 m 837 ls [])) : W p l e room_1 s m #[Value.ref b] below meth c H locs cells slots Q (F0 m 552 ls []) := by
  obtain ⟨⟨hx, hb, -, hml, hown, hts, hX, hbl, -, -⟩, hK, hXT, hst, hbA, hL⟩ := id K
  have htB : ∀ w ∈ TB, w.before #[Value.ref b] s = true := fun w h => hts w (in_TB w h)
  have hl : lv_has ls 7 [(4, .int (nI i)), (0, .ref b), (1, .ref (ad 0)), (2, .ref (ad 29)), (3, .ref (ad 28))] := hl
  refine lv_aload_n (pc := 552) hx hb d_law_552 rfl (lv_at hl 2 rfl) ?_
  refine lw_arg (pc := 553) K hS a_law_553 (by decide) hij (lv_at hl 1 rfl) (lv_at hl 0 rfl) ?_
  refine lw_arg (pc := 559) K hS a_law_559 (by decide) hij (lv_at hl 1 rfl) (lv_at hl 0 rfl) ?_
  refine lv_aload_n (pc := 565) hx hb d_law_565 rfl (lv_at hl 4 rfl) ?_
  refine gw_callS (pc := 566) (As := [.ref (ad 0), .int (xs (i + 1)), .int (xs (i + 2)), .ref (ad 28)]) (rest := []) hx hb hml hown (c_Law_late l hlt D ad ci cl _ σ τ (xs (i + 1)) (xs (i + 2)) (⟨h.1, fun z => (h.2.2 z).1⟩)) (hts _ tl_l_Law_late) (hts _ tl_s_Law_late) (hts _ tl_z_Law) (hts _ tl_c_Law_late) (gl_goodW hts tl_c_Law_late (by decide +kernel) rfl) (by decide) (n := 4) (by decide +kernel) (Nat.le_of_ble_eq_true rfl) (Nat.le_of_ble_eq_true rfl) rfl rfl hK hP hD hS hXT hst rfl hl.1 rfl (lv_room (Nat.le_of_ble_eq_true rfl)) d_law_566 ⟨hc1, hc2⟩ (fun k σ1 τ1 H locs hq hP hD hS => ?_)
  obtain ⟨h1, h2⟩ := cp_late h hq
  refine lv_istore (pc := 569) hx hb d_law_569 hl (by decide) rfl (fun ls hl => ?_)
  have hl : lv_has ls 7 [(5, .int k), (4, .int (nI i)), (0, .ref b), (1, .ref (ad 0)), (2, .ref (ad 29)), (3, .ref (ad 28))] := hl
  refine lv_aload_n (pc := 571) hx hb d_law_571 rfl (lv_at hl 4 rfl) ?_
  refine lw_arg (pc := 572) K hS a_law_572 (by decide) hij (lv_at hl 2 rfl) (lv_at hl 1 rfl) ?_
  refine lw_arg (pc := 578) K hS a_law_578 (by decide) hij (lv_at hl 2 rfl) (lv_at hl 1 rfl) ?_
  refine gk_callVi (pc := 584) (As := [.int (xs (i + 1)), .int (xs (i + 2))]) (rest := []) (b := ad 29) ⟨hx, hb, hml, hown, htB⟩ (c_Mo_late l D ad ci cl _ σ1 τ1 (xs (i + 1)) (xs (i + 2)) h1) ⟨callB_of 2 hts (gl_good tl_c_Mo_late (by decide +kernel) rfl) rfl rfl rfl (hts _ tl_z_Mo) (hts _ tl_l_Mo_late) (by decide +kernel) ⟨Nat.le_of_ble_eq_true rfl, Nat.le_of_ble_eq_true rfl⟩, hts _ tl_i_Mo_late, hts _ tl_s_Mo_late⟩ hK hP hD hS (va_recv hK hP (ci := 7) (q0 := 29) rfl rfl) rfl hl.1 rfl (lv_room (Nat.le_of_ble_eq_true rfl)) d_law_584 ⟨hc1, hc2⟩ (fun v σ2 τ2 H locs hq2 hP hD hS => ?_)
  obtain ⟨e1, e2, h3⟩ := h2 v σ2 τ2 hq2
  exact lw_tail (t := 587) K t_law_587 hP hD hS hl e1 e2 ⟨hc1, hc2⟩ (fun H locs ls hP hD hS hl => kk σ2 τ2 H locs ls h3 hP hD hS hl)
theorem lw_day (hlt : l.flags = flags0) (K : LC p s m meth c b L xs ad D ci cl) (h : CPL σ) (hP : va_P D classes (xw ad ci cl σ τ) H) (hD : va_D (gA (xa ad) s.heap.size) (xw ad ci cl σ τ)) (hS : va_S (gA (xa ad) s.heap.size) s.heap H locs) (hl : lv_has ls 7 (ll ad b i)) (hij : i + 6 ≤ L) (hc1 : cells + 1 ≤ 1089) (hc2 : slots + 6 ≤ 9371)
    (kk : ∀ (σ : MI) (τ : ML) (H : Heap) (locs : List Loc) (ls : Array Slot), CPL σ → va_P D classes (xw ad ci cl σ τ) H → va_D (gA (xa ad) s.heap.size) (xw ad ci cl σ τ) → va_S (gA (xa ad) s.heap.size) s.heap H locs → lv_has ls 7 (ll ad b i) → W p l e room_1 s m #[Value.ref b] below meth c H locs (cells + 1) (slots + 6) Q (F0 m 837 ls [])) : W p l e room_1 s m #[Value.ref b] below meth c H locs cells slots Q (F0 m 620 ls []) := by
  obtain ⟨⟨hx, hb, -, hml, hown, hts, hX, hbl, -, -⟩, hK, hXT, hst, hbA, hL⟩ := id K
  have htB : ∀ w ∈ TB, w.before #[Value.ref b] s = true := fun w h => hts w (in_TB w h)
  have hl : lv_has ls 7 [(4, .int (nI i)), (0, .ref b), (1, .ref (ad 0)), (2, .ref (ad 29)), (3, .ref (ad 28))] := hl
  refine lv_aload_n (pc := 620) hx hb d_law_620 rfl (lv_at hl 2 rfl) ?_
  refine lw_arg (pc := 621) K hS a_law_621 (by decide) hij (lv_at hl 1 rfl) (lv_at hl 0 rfl) ?_
  refine lw_arg (pc := 627) K hS a_law_627 (by decide) hij (lv_at hl 1 rfl) (lv_at hl 0 rfl) ?_
  refine lv_aload_n (pc := 633) hx hb d_law_633 rfl (lv_at hl 4 rfl) ?_
  refine gw_callS (pc := 634) (As := [.ref (ad 0), .int (xs (i + 1)), .int (xs (i + 2)), .ref (ad 28)]) (rest := []) hx hb hml hown (c_Law_day l hlt D ad ci cl _ σ τ (xs (i + 1)) (xs (i + 2)) (⟨h.1, fun z => (h.2.2 z).1⟩)) (hts _ tl_l_Law_day) (hts _ tl_s_Law_day) (hts _ tl_z_Law) (hts _ tl_c_Law_day) (gl_goodW hts tl_c_Law_day (by decide +kernel) rfl) (by decide) (n := 4) (by decide +kernel) (Nat.le_of_ble_eq_true rfl) (Nat.le_of_ble_eq_true rfl) rfl rfl hK hP hD hS hXT hst rfl hl.1 rfl (lv_room (Nat.le_of_ble_eq_true rfl)) d_law_634 ⟨hc1, hc2⟩ (fun k σ1 τ1 H locs hq hP hD hS => ?_)
  obtain ⟨h1, h2⟩ := cp_day h hq
  refine lv_istore (pc := 637) hx hb d_law_637 hl (by decide) rfl (fun ls hl => ?_)
  have hl : lv_has ls 7 [(5, .int k), (4, .int (nI i)), (0, .ref b), (1, .ref (ad 0)), (2, .ref (ad 29)), (3, .ref (ad 28))] := hl
  refine lv_aload_n (pc := 639) hx hb d_law_639 rfl (lv_at hl 4 rfl) ?_
  refine lw_arg (pc := 640) K hS a_law_640 (by decide) hij (lv_at hl 2 rfl) (lv_at hl 1 rfl) ?_
  refine lw_arg (pc := 646) K hS a_law_646 (by decide) hij (lv_at hl 2 rfl) (lv_at hl 1 rfl) ?_
  refine gk_callVi (pc := 652) (As := [.int (xs (i + 1)), .int (xs (i + 2))]) (rest := []) (b := ad 29) ⟨hx, hb, hml, hown, htB⟩ (c_Mo_day l D ad ci cl _ σ1 τ1 (xs (i + 1)) (xs (i + 2)) h1) ⟨callB_of 2 hts (gl_good tl_c_Mo_day (by decide +kernel) rfl) rfl rfl rfl (hts _ tl_z_Mo) (hts _ tl_l_Mo_day) (by decide +kernel) ⟨Nat.le_of_ble_eq_true rfl, Nat.le_of_ble_eq_true rfl⟩, hts _ tl_i_Mo_day, hts _ tl_s_Mo_day⟩ hK hP hD hS (va_recv hK hP (ci := 7) (q0 := 29) rfl rfl) rfl hl.1 rfl (lv_room (Nat.le_of_ble_eq_true rfl)) d_law_652 ⟨hc1, hc2⟩ (fun v σ2 τ2 H locs hq2 hP hD hS => ?_)
  obtain ⟨e1, e2, h3⟩ := h2 v σ2 τ2 hq2
  exact lw_tail (t := 655) K t_law_655 hP hD hS hl e1 e2 ⟨hc1, hc2⟩ (fun H locs ls hP hD hS hl => kk σ2 τ2 H locs ls h3 hP hD hS hl)
theorem lw_waits (hlt : l.flags = flags0) (K : LC p s m meth c b L xs ad D ci cl) (h : CPL σ) (hP : va_P D classes (xw ad ci cl σ τ) H) (hD : va_D (gA (xa ad) s.heap.size) (xw ad ci cl σ τ)) (hS : va_S (gA (xa ad) s.heap.size) s.heap H locs) (hl : lv_has ls 7 (ll ad b i)) (hij : i + 6 ≤ L) (hc1 : cells + 1 ≤ 1089) (hc2 : slots + 6 ≤ 9371)
    (kk : ∀ (σ : MI) (τ : ML) (H : Heap) (locs : List Loc) (ls : Array Slot), CPL σ → va_P D classes (xw ad ci cl σ τ) H → va_D (gA (xa ad) s.heap.size) (xw ad ci cl σ τ) → va_S (gA (xa ad) s.heap.size) s.heap H locs → lv_has ls 7 (ll ad b i) → W p l e room_1 s m #[Value.ref b] below meth c H locs (cells + 1) (slots + 6) Q (F0 m 837 ls [])) : W p l e room_1 s m #[Value.ref b] below meth c H locs cells slots Q (F0 m 688 ls []) := by
  obtain ⟨⟨hx, hb, -, hml, hown, hts, hX, hbl, -, -⟩, hK, hXT, hst, hbA, hL⟩ := id K
  have htB : ∀ w ∈ TB, w.before #[Value.ref b] s = true := fun w h => hts w (in_TB w h)
  have hl : lv_has ls 7 [(4, .int (nI i)), (0, .ref b), (1, .ref (ad 0)), (2, .ref (ad 29)), (3, .ref (ad 28))] := hl
  refine lv_aload_n (pc := 688) hx hb d_law_688 rfl (lv_at hl 2 rfl) ?_
  refine lw_arg (pc := 689) K hS a_law_689 (by decide) hij (lv_at hl 1 rfl) (lv_at hl 0 rfl) ?_
  refine lv_aload_n (pc := 695) hx hb d_law_695 rfl (lv_at hl 4 rfl) ?_
  refine gw_callS (pc := 696) (As := [.ref (ad 0), .int (xs (i + 1)), .ref (ad 28)]) (rest := []) hx hb hml hown (c_Law_waits l hlt D ad ci cl _ σ τ (xs (i + 1)) (⟨h.1, fun z => (h.2.2 z).1⟩)) (hts _ tl_l_Law_waits) (hts _ tl_s_Law_waits) (hts _ tl_z_Law) (hts _ tl_c_Law_waits) (gl_goodW hts tl_c_Law_waits (by decide +kernel) rfl) (by decide) (n := 3) (by decide +kernel) (Nat.le_of_ble_eq_true rfl) (Nat.le_of_ble_eq_true rfl) rfl rfl hK hP hD hS hXT hst rfl hl.1 rfl (lv_room (Nat.le_of_ble_eq_true rfl)) d_law_696 ⟨hc1, hc2⟩ (fun k σ1 τ1 H locs hq hP hD hS => ?_)
  obtain ⟨h1, h2⟩ := cp_waits h hq
  refine lv_istore (pc := 699) hx hb d_law_699 hl (by decide) rfl (fun ls hl => ?_)
  have hl : lv_has ls 7 [(5, .int k), (4, .int (nI i)), (0, .ref b), (1, .ref (ad 0)), (2, .ref (ad 29)), (3, .ref (ad 28))] := hl
  refine lv_aload_n (pc := 701) hx hb d_law_701 rfl (lv_at hl 4 rfl) ?_
  refine lw_arg (pc := 702) K hS a_law_702 (by decide) hij (lv_at hl 2 rfl) (lv_at hl 1 rfl) ?_
  refine gk_callVi (pc := 708) (As := [.int (xs (i + 1))]) (rest := []) (b := ad 29) ⟨hx, hb, hml, hown, htB⟩ (c_Mo_waits l D ad ci cl _ σ1 τ1 (xs (i + 1)) h1) ⟨callB_of 1 hts (gl_good tl_c_Mo_waits (by decide +kernel) rfl) rfl rfl rfl (hts _ tl_z_Mo) (hts _ tl_l_Mo_waits) (by decide +kernel) ⟨Nat.le_of_ble_eq_true rfl, Nat.le_of_ble_eq_true rfl⟩, hts _ tl_i_Mo_waits, hts _ tl_s_Mo_waits⟩ hK hP hD hS (va_recv hK hP (ci := 7) (q0 := 29) rfl rfl) rfl hl.1 rfl (lv_room (Nat.le_of_ble_eq_true rfl)) d_law_708 ⟨hc1, hc2⟩ (fun v σ2 τ2 H locs hq2 hP hD hS => ?_)
  obtain ⟨e1, e2, h3⟩ := h2 v σ2 τ2 hq2
  exact lw_tail (t := 711) K t_law_711 hP hD hS hl e1 e2 ⟨hc1, hc2⟩ (fun H locs ls hP hD hS hl => kk σ2 τ2 H locs ls h3 hP hD hS hl)
theorem lw_share (hlt : l.flags = flags0) (K : LC p s m meth c b L xs ad D ci cl) (h : CPL σ) (hP : va_P D classes (xw ad ci cl σ τ) H) (hD : va_D (gA (xa ad) s.heap.size) (xw ad ci cl σ τ)) (hS : va_S (gA (xa ad) s.heap.size) s.heap H locs) (hl : lv_has ls 7 (ll ad b i)) (hij : i + 6 ≤ L) (hc1 : cells + 1 ≤ 1089) (hc2 : slots + 6 ≤ 9371)
    (kk : ∀ (σ : MI) (τ : ML) (H : Heap) (locs : List Loc) (ls : Array Slot), CPL σ → va_P D classes (xw ad ci cl σ τ) H → va_D (gA (xa ad) s.heap.size) (xw ad ci cl σ τ) → va_S (gA (xa ad) s.heap.size) s.heap H locs → lv_has ls 7 (ll ad b i) → W p l e room_1 s m #[Value.ref b] below meth c H locs (cells + 1) (slots + 6) Q (F0 m 837 ls [])) : W p l e room_1 s m #[Value.ref b] below meth c H locs cells slots Q (F0 m 744 ls []) := by
  obtain ⟨⟨hx, hb, -, hml, hown, hts, hX, hbl, -, -⟩, hK, hXT, hst, hbA, hL⟩ := id K
  have htB : ∀ w ∈ TB, w.before #[Value.ref b] s = true := fun w h => hts w (in_TB w h)
  have hl : lv_has ls 7 [(4, .int (nI i)), (0, .ref b), (1, .ref (ad 0)), (2, .ref (ad 29)), (3, .ref (ad 28))] := hl
  refine lv_aload_n (pc := 744) hx hb d_law_744 rfl (lv_at hl 2 rfl) ?_
  refine lw_arg (pc := 745) K hS a_law_745 (by decide) hij (lv_at hl 1 rfl) (lv_at hl 0 rfl) ?_
  refine lw_arg (pc := 751) K hS a_law_751 (by decide) hij (lv_at hl 1 rfl) (lv_at hl 0 rfl) ?_
  refine lv_aload_n (pc := 757) hx hb d_law_757 rfl (lv_at hl 4 rfl) ?_
  refine gw_callS (pc := 758) (As := [.ref (ad 0), .int (xs (i + 1)), .int (xs (i + 2)), .ref (ad 28)]) (rest := []) hx hb hml hown (c_Law_share l hlt D ad ci cl _ σ τ (xs (i + 1)) (xs (i + 2)) (trivial)) (hts _ tl_l_Law_share) (hts _ tl_s_Law_share) (hts _ tl_z_Law) (hts _ tl_c_Law_share) (gl_goodW hts tl_c_Law_share (by decide +kernel) rfl) (by decide) (n := 4) (by decide +kernel) (Nat.le_of_ble_eq_true rfl) (Nat.le_of_ble_eq_true rfl) rfl rfl hK hP hD hS hXT hst rfl hl.1 rfl (lv_room (Nat.le_of_ble_eq_true rfl)) d_law_758 ⟨hc1, hc2⟩ (fun k σ1 τ1 H locs hq hP hD hS => ?_)
  have h2 := cp_share h hq
  refine lv_istore (pc := 761) hx hb d_law_761 hl (by decide) rfl (fun ls hl => ?_)
  have hl : lv_has ls 7 [(5, .int k), (4, .int (nI i)), (0, .ref b), (1, .ref (ad 0)), (2, .ref (ad 29)), (3, .ref (ad 28))] := hl
  refine lv_aload_n (pc := 763) hx hb d_law_763 rfl (lv_at hl 4 rfl) ?_
  refine lw_arg (pc := 764) K hS a_law_764 (by decide) hij (lv_at hl 2 rfl) (lv_at hl 1 rfl) ?_
  refine lw_arg (pc := 770) K hS a_law_770 (by decide) hij (lv_at hl 2 rfl) (lv_at hl 1 rfl) ?_
  refine gk_callVi (pc := 776) (As := [.int (xs (i + 1)), .int (xs (i + 2))]) (rest := []) (b := ad 29) ⟨hx, hb, hml, hown, htB⟩ (c_Mo_share l D ad ci cl _ σ1 τ1 (xs (i + 1)) (xs (i + 2)) trivial) ⟨callB_of 2 hts (gl_good tl_c_Mo_share (by decide +kernel) rfl) rfl rfl rfl (hts _ tl_z_Mo) (hts _ tl_l_Mo_share) (by decide +kernel) ⟨Nat.le_of_ble_eq_true rfl, Nat.le_of_ble_eq_true rfl⟩, hts _ tl_i_Mo_share, hts _ tl_s_Mo_share⟩ hK hP hD hS (va_recv hK hP (ci := 7) (q0 := 29) rfl rfl) rfl hl.1 rfl (lv_room (Nat.le_of_ble_eq_true rfl)) d_law_776 ⟨hc1, hc2⟩ (fun v σ2 τ2 H locs hq2 hP hD hS => ?_)
  obtain ⟨e1, e2, h3⟩ := h2 v σ2 τ2 hq2
  exact lw_tail (t := 779) K t_law_779 hP hD hS hl e1 e2 ⟨hc1, hc2⟩ (fun H locs ls hP hD hS hl => kk σ2 τ2 H locs ls h3 hP hD hS hl)
theorem lw_count (hlt : l.flags = flags0) (K : LC p s m meth c b L xs ad D ci cl) (h : CPL σ) (hP : va_P D classes (xw ad ci cl σ τ) H) (hD : va_D (gA (xa ad) s.heap.size) (xw ad ci cl σ τ)) (hS : va_S (gA (xa ad) s.heap.size) s.heap H locs) (hl : lv_has ls 7 (ll ad b i)) (hij : i + 6 ≤ L) (hc1 : cells + 1 ≤ 1089) (hc2 : slots + 6 ≤ 9371)
    (kk : ∀ (σ : MI) (τ : ML) (H : Heap) (locs : List Loc) (ls : Array Slot), CPL σ → va_P D classes (xw ad ci cl σ τ) H → va_D (gA (xa ad) s.heap.size) (xw ad ci cl σ τ) → va_S (gA (xa ad) s.heap.size) s.heap H locs → lv_has ls 7 (ll ad b i) → W p l e room_1 s m #[Value.ref b] below meth c H locs (cells + 1) (slots + 6) Q (F0 m 837 ls [])) : W p l e room_1 s m #[Value.ref b] below meth c H locs cells slots Q (F0 m 812 ls []) := by
  obtain ⟨⟨hx, hb, -, hml, hown, hts, hX, hbl, -, -⟩, hK, hXT, hst, hbA, hL⟩ := id K
  have htB : ∀ w ∈ TB, w.before #[Value.ref b] s = true := fun w h => hts w (in_TB w h)
  have hl : lv_has ls 7 [(4, .int (nI i)), (0, .ref b), (1, .ref (ad 0)), (2, .ref (ad 29)), (3, .ref (ad 28))] := hl
  refine lv_aload_n (pc := 812) hx hb d_law_812 rfl (lv_at hl 2 rfl) ?_
  refine lw_arg (pc := 813) K hS a_law_813 (by decide) hij (lv_at hl 1 rfl) (lv_at hl 0 rfl) ?_
  refine gk_callVi (pc := 819) (As := [.int (xs (i + 1))]) (rest := []) (b := ad 0) ⟨hx, hb, hml, hown, htB⟩ (c_PT_count l D ad ci cl _ σ τ (xs (i + 1)) (h.1)) ⟨callB_of 1 hts (gl_good tl_c_PT_count (by decide +kernel) rfl) rfl rfl rfl (hts _ tl_z_PT) (hts _ tl_l_PT_count) (by decide +kernel) ⟨Nat.le_of_ble_eq_true rfl, Nat.le_of_ble_eq_true rfl⟩, hts _ tl_i_PT_count, hts _ tl_s_PT_count⟩ hK hP hD hS (va_recv hK hP (ci := 6) (q0 := 0) rfl rfl) rfl hl.1 rfl (lv_room (Nat.le_of_ble_eq_true rfl)) d_law_819 ⟨Nat.le_of_succ_le hc1, by show slots ≤ 9371; omega⟩ (fun r σ1 τ1 H locs hq hP hD hS => ?_)
  obtain ⟨h1, h2⟩ := cp_count h hq
  refine lv_aload_n (pc := 822) hx hb d_law_822 rfl (lv_at hl 3 rfl) ?_
  refine lw_arg (pc := 823) K hS a_law_823 (by decide) hij (lv_at hl 1 rfl) (lv_at hl 0 rfl) ?_
  refine gk_callVi (pc := 829) (As := [.int (xs (i + 1))]) (rest := [.int r]) (b := ad 29) ⟨hx, hb, hml, hown, htB⟩ (c_Mo_count l D ad ci cl _ σ1 τ1 (xs (i + 1)) h1) ⟨callB_of 1 hts (gl_good tl_c_Mo_count (by decide +kernel) rfl) rfl rfl rfl (hts _ tl_z_Mo) (hts _ tl_l_Mo_count) (by decide +kernel) ⟨Nat.le_of_ble_eq_true rfl, Nat.le_of_ble_eq_true rfl⟩, hts _ tl_i_Mo_count, hts _ tl_s_Mo_count⟩ hK hP hD hS (va_recv hK hP (ci := 7) (q0 := 29) rfl rfl) rfl hl.1 rfl (lv_room (Nat.le_of_ble_eq_true rfl)) d_law_829 ⟨Nat.le_of_succ_le hc1, by show slots ≤ 9371; omega⟩ (fun v σ2 τ2 H locs hq2 hP hD hS => ?_)
  obtain ⟨e1, h3⟩ := h2 v σ2 τ2 hq2
  refine lv_icmp_eq (pc := 832) (tgt := 837) hx hb d_law_832 (by decide) (fun _ => ?_) (fun hc => absurd e1 hc)
  exact W.widen (k := cells + 1) (n := slots + 6) (by omega) (by omega) (kk σ2 τ2 H locs ls h3 hP hD hS hl)
end LWC
