/-! A small kit over the kit: one world a system, its ints as a memory MI (cell, place), its longs as ML. -/
abbrev MI : Type := Nat → Nat → Int32
abbrev ML : Type := Nat → Nat → Int64
def st2 (σ : MI) (c i : Nat) (v : Int32) : MI := fun a => if a = c then upd (σ a) i v else σ a
def sl2 (τ : ML) (c i : Nat) (v : Int64) : ML := fun a => if a = c then vp_updL (τ a) i v else τ a
def st1 (σ : MI) (c : Nat) (f : Nat → Int32) : MI := fun a => if a = c then f else σ a
def gA (as : List Nat) (sz : Nat) : Nat → Prop := fun q => q ∈ as ∨ sz ≤ q
theorem gk_A {as : List Nat} {a b : Nat} (h : a ≤ b) : ∀ q, gA as b q → gA as a q := fun _ hq => hq.elim Or.inl (fun z => Or.inr (Nat.le_trans h z))
theorem gk_D {as : List Nat} {sz : Nat} {A : Nat → Prop} {ws : va_W} (h : va_D A ws) (e : ws.map Prod.fst = as) : va_D (gA as sz) ws := by
  refine ⟨h.1, fun k q hk => Or.inl ?_⟩
  rw [← e]
  exact List.mem_map.mpr ⟨q, List.mem_of_getElem? hk, rfl⟩
theorem gk_ne {x k : Int32} {z : Int} (h : ¬ x = k) (hk : k.toInt = z) : x.toInt ≠ z := fun e => h (Int32.toInt_inj.mp (e.trans hk.symm))
theorem gk_nz {x : Int32} (h : x = 0 ∨ x = 1) : narrow .boolean (.int x) = .int x := by
  rcases h with rfl | rfl <;> rfl
theorem gk_fz {x : Int32} (h : x = 0 ∨ x = 1) : fits .boolean (.int x) = true := by
  rcases h with rfl | rfl <;> rfl
/-- a contract's start -/
def gPc (D : va_G) (wf : MI → ML → va_W) (ty : List (ClassId × FieldType)) (av : List Value) (sz : Nat) (σ : MI) (τ : ML) : Array Value → State → Prop :=
  va_Pc av (fun U => U.heap.size = sz ∧ va_P D classes (wf σ τ) U.heap ∧ va_K D classes ty U ∧ va_D (fun _ => True) (wf σ τ))
/-- the world behind it -/
def gB (D : va_G) (wf : MI → ML → va_W) (ty : List (ClassId × FieldType)) (as : List Nat) (sz : Nat) (u : MI × ML) (t : State) : Prop :=
  va_P D classes (wf u.1 u.2) t.heap ∧ va_K D classes ty t ∧ va_D (gA as sz) (wf u.1 u.2)
def gMi (l : Launch) (D : va_G) (wf : MI → ML → va_W) (ty : List (ClassId × FieldType)) (as : List Nat) (y : MethodName) (ws : List Cond) (rm : Room) (av : List Value) (sz : Nat) (σ : MI) (τ : ML) (post : Int32 → MI → ML → Prop) : Prop :=
  Met l y ws rm (gPc D wf ty av sz σ τ) (va_Qi (fun r (u : MI × ML) => post r u.1 u.2) (gB D wf ty as sz) (gA as sz)) 0 0 (gA as sz)
def gMl (l : Launch) (D : va_G) (wf : MI → ML → va_W) (ty : List (ClassId × FieldType)) (as : List Nat) (y : MethodName) (ws : List Cond) (rm : Room) (av : List Value) (sz : Nat) (σ : MI) (τ : ML) (post : Int64 → MI → ML → Prop) : Prop :=
  Met l y ws rm (gPc D wf ty av sz σ τ) (va_Ql (fun r (u : MI × ML) => post r u.1 u.2) (gB D wf ty as sz) (gA as sz)) 0 0 (gA as sz)
def gMv (l : Launch) (D : va_G) (wf : MI → ML → va_W) (ty : List (ClassId × FieldType)) (as : List Nat) (y : MethodName) (ws : List Cond) (rm : Room) (av : List Value) (sz : Nat) (σ : MI) (τ : ML) (post : MI → ML → Prop) : Prop :=
  Met l y ws rm (gPc D wf ty av sz σ τ) (va_Qv (fun (u : MI × ML) => post u.1 u.2) (gB D wf ty as sz) (gA as sz)) 0 0 (gA as sz)
def gQi (D : va_G) (wf : MI → ML → va_W) (ty : List (ClassId × FieldType)) (as : List Nat) (below : List Frame) (av : List Value) (s : State) (post : Int32 → MI → ML → Prop) : State → Prop :=
  MQ below (va_Qi (fun r (u : MI × ML) => post r u.1 u.2) (gB D wf ty as s.heap.size) (gA as s.heap.size)) av.toArray s 0 0 (gA as s.heap.size)
def gQl (D : va_G) (wf : MI → ML → va_W) (ty : List (ClassId × FieldType)) (as : List Nat) (below : List Frame) (av : List Value) (s : State) (post : Int64 → MI → ML → Prop) : State → Prop :=
  MQ below (va_Ql (fun r (u : MI × ML) => post r u.1 u.2) (gB D wf ty as s.heap.size) (gA as s.heap.size)) av.toArray s 0 0 (gA as s.heap.size)
def gQv (D : va_G) (wf : MI → ML → va_W) (ty : List (ClassId × FieldType)) (as : List Nat) (below : List Frame) (av : List Value) (s : State) (post : MI → ML → Prop) : State → Prop :=
  MQ below (va_Qv (fun (u : MI × ML) => post u.1 u.2) (gB D wf ty as s.heap.size) (gA as s.heap.size)) av.toArray s 0 0 (gA as s.heap.size)
theorem gk_blind {D : va_G} {wf : MI → ML → va_W} {ty : List (ClassId × FieldType)} {av : List Value} {sz : Nat} {σ : MI} {τ : ML} : FrameBlind (gPc D wf ty av sz σ τ) := fun a U g mk q => by
  obtain ⟨q0, q1, qP, qK, qD⟩ := q
  exact ⟨q0, q1, qP, va_K.moved (u := U) (U := U.calling g mk a) (Vm.Alike.refl U.vm) qK, qD⟩
theorem gk_good {ws : List Cond} {w0 : Cond} (hc : w0 ∈ TB) (hw : ws = w0 :: TB) : GoodIn TB ws := by
  intro w h
  rw [hw] at h
  rcases List.mem_cons.mp h with rfl | h
  · exact ⟨hc, TB_good _ hc⟩
  · exact ⟨h, TB_good _ h⟩
section GK
variable {p : Program} {l : Launch} {e : Env} {R : Room} {s : State} {m : MethodId} {args : Array Value} {below : List Frame} {meth : Method} {c : Code} {H : Heap} {locs : List Loc} {cells slots : Nat} {Q : State → Prop}
variable {D : va_G} {wf : MI → ML → va_W} {ty : List (ClassId × FieldType)} {as : List Nat} {y : MethodName} {ws : List Cond} {rm : Room} {av : List Value} {sz : Nat} {σ : MI} {τ : ML}
variable {cc bytes : ByteArray} {maxL nL index n pc : Nat} {ret : Option FieldType} {own C : String} {b : Addr} {As rest st0 : List Value} {ls : Array Slot}
theorem gk_cwV (n : Nat) (ht : ∀ w ∈ TB, w.before args s = true) (hc : Cond.code y bytes maxL ret ∈ TB) (hw : ws = Cond.code y bytes maxL ret :: TB) (hrc : rm.cells = 0) (hrs : rm.slots = 0) (hl : (Cond.methodLink own index y).before args s = true) (hin : (Cond.instanceMethod y).before args s = true) (hse : (Cond.selects C y y).before args s = true) (hini : (Cond.initialized C).before args s = true)
    (hd : y.cls = C ∧ y.cls ≠ "java/lang/invoke/MethodHandle" ∧ y.cls ≠ "java/lang/invoke/VarHandle" ∧ (parseMethodDescriptor y.desc).map (fun d => d.parameters.length) = some n) (hR : rm.frames + 1 ≤ R.frames ∧ 8 + (maxL + 11) + rm.locals ≤ R.locals) : CallW R s args own C index y bytes maxL ret ws rm 0 0 n :=
  ⟨callB_of n ht (gk_good hc hw) hw hrc hrs (by rw [hd.1]; exact hini) hl ⟨hd.2.1, hd.2.2.1, hd.2.2.2⟩ hR, hin, hse⟩
theorem gk_cwS (n : Nat) (ht : ∀ w ∈ TB, w.before args s = true) (hc : Cond.code y bytes maxL ret ∈ TB) (hw : ws = Cond.code y bytes maxL ret :: TB) (hrc : rm.cells = 0) (hrs : rm.slots = 0) (hl : (Cond.methodLink own index y).before args s = true) (hst : (Cond.static y).before args s = true) (hini : (Cond.initialized C).before args s = true)
    (hd : y.cls = C ∧ y.cls ≠ "java/lang/invoke/MethodHandle" ∧ y.cls ≠ "java/lang/invoke/VarHandle" ∧ (parseMethodDescriptor y.desc).map (fun d => d.parameters.length) = some n) (hR : rm.frames + 1 ≤ R.frames ∧ 8 + (maxL + 11) + rm.locals ≤ R.locals) : CallB R s args own index y bytes maxL ret ws rm 0 0 n ∧ (Cond.static y).before args s = true :=
  ⟨callB_of n ht (gk_good hc hw) hw hrc hrs (by rw [hd.1]; exact hini) hl ⟨hd.2.1, hd.2.2.1, hd.2.2.2⟩ hR, hst⟩
theorem gk_preV (hK : va_K D classes ty s) (hP : va_P D classes (wf σ τ) H) (hD : va_D (gA as s.heap.size) (wf σ τ)) (hrecv : ∃ cellB : Cell, H[b]? = some cellB ∧ cellB.vm.isStatics = false ∧ s.vm.findClass C = some cellB.cls) : PreV s H C b (gPc D wf ty (.ref b :: As) H.size σ τ) As :=
  ⟨gk_blind, hrecv, fun U hU hW => ⟨rfl, by rw [hU], by rw [hU]; exact hP, va_K.moved hW.alike hK, hD.weaken (fun _ _ _ _ => trivial)⟩⟩
theorem gk_preS (hK : va_K D classes ty s) (hP : va_P D classes (wf σ τ) H) (hD : va_D (gA as s.heap.size) (wf σ τ)) : PreS s H (gPc D wf ty As H.size σ τ) As :=
  ⟨gk_blind, fun U hU hW => ⟨rfl, by rw [hU], by rw [hU]; exact hP, va_K.moved hW.alike hK, hD.weaken (fun _ _ _ _ => trivial)⟩⟩
theorem gk_callVi {post : Int32 → MI → ML → Prop} (S : CallFix p m c cc nL s args TB own) (hM : gMi l D wf ty as y ws rm (.ref b :: As) H.size σ τ post) (cw : CallW R s args own C index y bytes maxL ret ws rm 0 0 n) (hK : va_K D classes ty s) (hP : va_P D classes (wf σ τ) H) (hD : va_D (gA as s.heap.size) (wf σ τ)) (hS : va_S (gA as s.heap.size) s.heap H locs)
    (hrecv : ∃ cellB : Cell, H[b]? = some cellB ∧ cellB.vm.isStatics = false ∧ s.vm.findClass C = some cellB.cls) (hn : As.length = n) (hsize : ls.size = nL) (hstack : st0 = As.reverse ++ .ref b :: rest) (hW : 2 * (F0 m pc ls st0).monitorRoom + (rest.map fun v => v.category).sum ≤ 8) (hdg : decode cc pc = .ok (.invokevirtual index, 3)) (hcs : cells ≤ R.cells ∧ slots ≤ R.slots)
    (kk : ∀ (r : Int32) (σ1 : MI) (τ1 : ML) (H1 : Heap) (locs1 : List Loc), post r σ1 τ1 → va_P D classes (wf σ1 τ1) H1 → va_D (gA as s.heap.size) (wf σ1 τ1) → va_S (gA as s.heap.size) s.heap H1 locs1 → W p l e R s m args below meth c H1 locs1 cells slots Q (F0 m (pc + 3) ls (.int r :: rest))) : W p l e R s m args below meth c H locs cells slots Q (F0 m pc ls st0) := by
  refine va_calli (va_runV (As := As) (rest := rest) S hM cw (gk_preV hK hP hD hrecv) rfl hn hsize hstack hW hdg hcs) hS (fun q _ h => gk_A hS.1 q h) (gk_A hS.1) (fun r u t H1 locs1 ht hvm hw hB hz1 hk1 hS1 => ?_)
  obtain ⟨σ1, τ1⟩ := u
  obtain ⟨hP1, hK1, hD1⟩ := hB
  rw [ht] at hP1
  exact kk r σ1 τ1 H1 locs1 hw hP1 (hD1.weaken (fun _ _ _ h => gk_A hS.1 _ h)) hS1
theorem gk_callSi {post : Int32 → MI → ML → Prop} (S : CallFix p m c cc nL s args TB own) (hM : gMi l D wf ty as y ws rm As H.size σ τ post) (cw : CallB R s args own index y bytes maxL ret ws rm 0 0 n ∧ (Cond.static y).before args s = true) (hK : va_K D classes ty s) (hP : va_P D classes (wf σ τ) H) (hD : va_D (gA as s.heap.size) (wf σ τ)) (hS : va_S (gA as s.heap.size) s.heap H locs)
    (hn : As.length = n) (hsize : ls.size = nL) (hstack : st0 = As.reverse ++ rest) (hW : 2 * (F0 m pc ls st0).monitorRoom + (rest.map fun v => v.category).sum ≤ 8) (hdg : decode cc pc = .ok (.invokestatic index, 3)) (hcs : cells ≤ R.cells ∧ slots ≤ R.slots)
    (kk : ∀ (r : Int32) (σ1 : MI) (τ1 : ML) (H1 : Heap) (locs1 : List Loc), post r σ1 τ1 → va_P D classes (wf σ1 τ1) H1 → va_D (gA as s.heap.size) (wf σ1 τ1) → va_S (gA as s.heap.size) s.heap H1 locs1 → W p l e R s m args below meth c H1 locs1 cells slots Q (F0 m (pc + 3) ls (.int r :: rest))) : W p l e R s m args below meth c H locs cells slots Q (F0 m pc ls st0) := by
  refine va_calli (va_runS (As := As) (rest := rest) S hM cw (gk_preS hK hP hD) rfl hn hsize hstack hW hdg hcs) hS (fun q _ h => gk_A hS.1 q h) (gk_A hS.1) (fun r u t H1 locs1 ht hvm hw hB hz1 hk1 hS1 => ?_)
  obtain ⟨σ1, τ1⟩ := u
  obtain ⟨hP1, hK1, hD1⟩ := hB
  rw [ht] at hP1
  exact kk r σ1 τ1 H1 locs1 hw hP1 (hD1.weaken (fun _ _ _ h => gk_A hS.1 _ h)) hS1
theorem gk_ofWi {post : Int32 → MI → ML → Prop} (hy : plainName y.cls = true) (hw : ws = Cond.code y cc maxL ret :: TB) (has : ∀ (σ : MI) (τ : ML), (wf σ τ).map Prod.fst = as) (hlen : (lg_sl av).length ≤ maxL)
    (body : ∀ (p : Program) (e : Env) (s : State) (m : MethodId) (below : List Frame) (meth : Method) (c : Code) (ls : Array Slot), p.tables.exec = Jvm.exec → c.code = cc → meth.sig.returnType = ret → meth.locks = false → c.maxLocals = maxL → s.vm.findClass y.cls = some m.cls → (∀ w ∈ TB, w.before av.toArray s = true) → va_K D classes ty s → va_P D classes (wf σ τ) s.heap → va_D (gA as s.heap.size) (wf σ τ) → va_S (gA as s.heap.size) s.heap s.heap [] → lv_has ls maxL (lv_args 0 av) →
      W p l e rm s m av.toArray below meth c s.heap [] 0 0 (gQi D wf ty as below av s post) (F0 m 0 ls [])) : gMi l D wf ty as y ws rm av sz σ τ post := by
  refine Met.ofW (cc := cc) (maxL := maxL) (ret := ret) hy hw ?_
  intro p e s m args below meth c s₁ B hml hv
  obtain ⟨rfl, hsz, hP, hK, hD0⟩ := hv
  subst hsz
  have hts0 := atoms_spec (ws := ws) B.pre
  have hl := lv_entry av (n := maxL) hlen
  rw [lg_entry_eq]
  exact body p e s m below meth c _ B.exec B.bytes B.returns B.notSynchronized hml (findClass_of_methodNamed B.named) (fun w hw' => hts0 w (by rw [hw]; exact List.mem_cons_of_mem _ hw')) hK hP (gk_D hD0 (has σ τ)) va_S.rf hl
theorem gk_callVl {post : Int64 → MI → ML → Prop} (S : CallFix p m c cc nL s args TB own) (hM : gMl l D wf ty as y ws rm (.ref b :: As) H.size σ τ post) (cw : CallW R s args own C index y bytes maxL ret ws rm 0 0 n) (hK : va_K D classes ty s) (hP : va_P D classes (wf σ τ) H) (hD : va_D (gA as s.heap.size) (wf σ τ)) (hS : va_S (gA as s.heap.size) s.heap H locs)
    (hrecv : ∃ cellB : Cell, H[b]? = some cellB ∧ cellB.vm.isStatics = false ∧ s.vm.findClass C = some cellB.cls) (hn : As.length = n) (hsize : ls.size = nL) (hstack : st0 = As.reverse ++ .ref b :: rest) (hW : 2 * (F0 m pc ls st0).monitorRoom + (rest.map fun v => v.category).sum ≤ 8) (hdg : decode cc pc = .ok (.invokevirtual index, 3)) (hcs : cells ≤ R.cells ∧ slots ≤ R.slots)
    (kk : ∀ (r : Int64) (σ1 : MI) (τ1 : ML) (H1 : Heap) (locs1 : List Loc), post r σ1 τ1 → va_P D classes (wf σ1 τ1) H1 → va_D (gA as s.heap.size) (wf σ1 τ1) → va_S (gA as s.heap.size) s.heap H1 locs1 → W p l e R s m args below meth c H1 locs1 cells slots Q (F0 m (pc + 3) ls (.long r :: rest))) : W p l e R s m args below meth c H locs cells slots Q (F0 m pc ls st0) := by
  refine va_calll (va_runV (As := As) (rest := rest) S hM cw (gk_preV hK hP hD hrecv) rfl hn hsize hstack hW hdg hcs) hS (fun q _ h => gk_A hS.1 q h) (gk_A hS.1) (fun r u t H1 locs1 ht hvm hw hB hz1 hk1 hS1 => ?_)
  obtain ⟨σ1, τ1⟩ := u
  obtain ⟨hP1, hK1, hD1⟩ := hB
  rw [ht] at hP1
  exact kk r σ1 τ1 H1 locs1 hw hP1 (hD1.weaken (fun _ _ _ h => gk_A hS.1 _ h)) hS1
theorem gk_callSl {post : Int64 → MI → ML → Prop} (S : CallFix p m c cc nL s args TB own) (hM : gMl l D wf ty as y ws rm As H.size σ τ post) (cw : CallB R s args own index y bytes maxL ret ws rm 0 0 n ∧ (Cond.static y).before args s = true) (hK : va_K D classes ty s) (hP : va_P D classes (wf σ τ) H) (hD : va_D (gA as s.heap.size) (wf σ τ)) (hS : va_S (gA as s.heap.size) s.heap H locs)
    (hn : As.length = n) (hsize : ls.size = nL) (hstack : st0 = As.reverse ++ rest) (hW : 2 * (F0 m pc ls st0).monitorRoom + (rest.map fun v => v.category).sum ≤ 8) (hdg : decode cc pc = .ok (.invokestatic index, 3)) (hcs : cells ≤ R.cells ∧ slots ≤ R.slots)
    (kk : ∀ (r : Int64) (σ1 : MI) (τ1 : ML) (H1 : Heap) (locs1 : List Loc), post r σ1 τ1 → va_P D classes (wf σ1 τ1) H1 → va_D (gA as s.heap.size) (wf σ1 τ1) → va_S (gA as s.heap.size) s.heap H1 locs1 → W p l e R s m args below meth c H1 locs1 cells slots Q (F0 m (pc + 3) ls (.long r :: rest))) : W p l e R s m args below meth c H locs cells slots Q (F0 m pc ls st0) := by
  refine va_calll (va_runS (As := As) (rest := rest) S hM cw (gk_preS hK hP hD) rfl hn hsize hstack hW hdg hcs) hS (fun q _ h => gk_A hS.1 q h) (gk_A hS.1) (fun r u t H1 locs1 ht hvm hw hB hz1 hk1 hS1 => ?_)
  obtain ⟨σ1, τ1⟩ := u
  obtain ⟨hP1, hK1, hD1⟩ := hB
  rw [ht] at hP1
  exact kk r σ1 τ1 H1 locs1 hw hP1 (hD1.weaken (fun _ _ _ h => gk_A hS.1 _ h)) hS1
theorem gk_ofWl {post : Int64 → MI → ML → Prop} (hy : plainName y.cls = true) (hw : ws = Cond.code y cc maxL ret :: TB) (has : ∀ (σ : MI) (τ : ML), (wf σ τ).map Prod.fst = as) (hlen : (lg_sl av).length ≤ maxL)
    (body : ∀ (p : Program) (e : Env) (s : State) (m : MethodId) (below : List Frame) (meth : Method) (c : Code) (ls : Array Slot), p.tables.exec = Jvm.exec → c.code = cc → meth.sig.returnType = ret → meth.locks = false → c.maxLocals = maxL → s.vm.findClass y.cls = some m.cls → (∀ w ∈ TB, w.before av.toArray s = true) → va_K D classes ty s → va_P D classes (wf σ τ) s.heap → va_D (gA as s.heap.size) (wf σ τ) → va_S (gA as s.heap.size) s.heap s.heap [] → lv_has ls maxL (lv_args 0 av) →
      W p l e rm s m av.toArray below meth c s.heap [] 0 0 (gQl D wf ty as below av s post) (F0 m 0 ls [])) : gMl l D wf ty as y ws rm av sz σ τ post := by
  refine Met.ofW (cc := cc) (maxL := maxL) (ret := ret) hy hw ?_
  intro p e s m args below meth c s₁ B hml hv
  obtain ⟨rfl, hsz, hP, hK, hD0⟩ := hv
  subst hsz
  have hts0 := atoms_spec (ws := ws) B.pre
  have hl := lv_entry av (n := maxL) hlen
  rw [lg_entry_eq]
  exact body p e s m below meth c _ B.exec B.bytes B.returns B.notSynchronized hml (findClass_of_methodNamed B.named) (fun w hw' => hts0 w (by rw [hw]; exact List.mem_cons_of_mem _ hw')) hK hP (gk_D hD0 (has σ τ)) va_S.rf hl
theorem gk_callVv {post : MI → ML → Prop} (S : CallFix p m c cc nL s args TB own) (hM : gMv l D wf ty as y ws rm (.ref b :: As) H.size σ τ post) (cw : CallW R s args own C index y bytes maxL ret ws rm 0 0 n) (hK : va_K D classes ty s) (hP : va_P D classes (wf σ τ) H) (hD : va_D (gA as s.heap.size) (wf σ τ)) (hS : va_S (gA as s.heap.size) s.heap H locs)
    (hrecv : ∃ cellB : Cell, H[b]? = some cellB ∧ cellB.vm.isStatics = false ∧ s.vm.findClass C = some cellB.cls) (hn : As.length = n) (hsize : ls.size = nL) (hstack : st0 = As.reverse ++ .ref b :: rest) (hW : 2 * (F0 m pc ls st0).monitorRoom + (rest.map fun v => v.category).sum ≤ 8) (hdg : decode cc pc = .ok (.invokevirtual index, 3)) (hcs : cells ≤ R.cells ∧ slots ≤ R.slots)
    (kk : ∀ (σ1 : MI) (τ1 : ML) (H1 : Heap) (locs1 : List Loc), post σ1 τ1 → va_P D classes (wf σ1 τ1) H1 → va_D (gA as s.heap.size) (wf σ1 τ1) → va_S (gA as s.heap.size) s.heap H1 locs1 → W p l e R s m args below meth c H1 locs1 cells slots Q (F0 m (pc + 3) ls (rest))) : W p l e R s m args below meth c H locs cells slots Q (F0 m pc ls st0) := by
  refine va_callv (va_runV (As := As) (rest := rest) S hM cw (gk_preV hK hP hD hrecv) rfl hn hsize hstack hW hdg hcs) hS (fun q _ h => gk_A hS.1 q h) (gk_A hS.1) (fun u t H1 locs1 ht hvm hw hB hz1 hk1 hS1 => ?_)
  obtain ⟨σ1, τ1⟩ := u
  obtain ⟨hP1, hK1, hD1⟩ := hB
  rw [ht] at hP1
  exact kk σ1 τ1 H1 locs1 hw hP1 (hD1.weaken (fun _ _ _ h => gk_A hS.1 _ h)) hS1
theorem gk_callSv {post : MI → ML → Prop} (S : CallFix p m c cc nL s args TB own) (hM : gMv l D wf ty as y ws rm As H.size σ τ post) (cw : CallB R s args own index y bytes maxL ret ws rm 0 0 n ∧ (Cond.static y).before args s = true) (hK : va_K D classes ty s) (hP : va_P D classes (wf σ τ) H) (hD : va_D (gA as s.heap.size) (wf σ τ)) (hS : va_S (gA as s.heap.size) s.heap H locs)
    (hn : As.length = n) (hsize : ls.size = nL) (hstack : st0 = As.reverse ++ rest) (hW : 2 * (F0 m pc ls st0).monitorRoom + (rest.map fun v => v.category).sum ≤ 8) (hdg : decode cc pc = .ok (.invokestatic index, 3)) (hcs : cells ≤ R.cells ∧ slots ≤ R.slots)
    (kk : ∀ (σ1 : MI) (τ1 : ML) (H1 : Heap) (locs1 : List Loc), post σ1 τ1 → va_P D classes (wf σ1 τ1) H1 → va_D (gA as s.heap.size) (wf σ1 τ1) → va_S (gA as s.heap.size) s.heap H1 locs1 → W p l e R s m args below meth c H1 locs1 cells slots Q (F0 m (pc + 3) ls (rest))) : W p l e R s m args below meth c H locs cells slots Q (F0 m pc ls st0) := by
  refine va_callv (va_runS (As := As) (rest := rest) S hM cw (gk_preS hK hP hD) rfl hn hsize hstack hW hdg hcs) hS (fun q _ h => gk_A hS.1 q h) (gk_A hS.1) (fun u t H1 locs1 ht hvm hw hB hz1 hk1 hS1 => ?_)
  obtain ⟨σ1, τ1⟩ := u
  obtain ⟨hP1, hK1, hD1⟩ := hB
  rw [ht] at hP1
  exact kk σ1 τ1 H1 locs1 hw hP1 (hD1.weaken (fun _ _ _ h => gk_A hS.1 _ h)) hS1
theorem gk_ofWv {post : MI → ML → Prop} (hy : plainName y.cls = true) (hw : ws = Cond.code y cc maxL ret :: TB) (has : ∀ (σ : MI) (τ : ML), (wf σ τ).map Prod.fst = as) (hlen : (lg_sl av).length ≤ maxL)
    (body : ∀ (p : Program) (e : Env) (s : State) (m : MethodId) (below : List Frame) (meth : Method) (c : Code) (ls : Array Slot), p.tables.exec = Jvm.exec → c.code = cc → meth.sig.returnType = ret → meth.locks = false → c.maxLocals = maxL → s.vm.findClass y.cls = some m.cls → (∀ w ∈ TB, w.before av.toArray s = true) → va_K D classes ty s → va_P D classes (wf σ τ) s.heap → va_D (gA as s.heap.size) (wf σ τ) → va_S (gA as s.heap.size) s.heap s.heap [] → lv_has ls maxL (lv_args 0 av) →
      W p l e rm s m av.toArray below meth c s.heap [] 0 0 (gQv D wf ty as below av s post) (F0 m 0 ls [])) : gMv l D wf ty as y ws rm av sz σ τ post := by
  refine Met.ofW (cc := cc) (maxL := maxL) (ret := ret) hy hw ?_
  intro p e s m args below meth c s₁ B hml hv
  obtain ⟨rfl, hsz, hP, hK, hD0⟩ := hv
  subst hsz
  have hts0 := atoms_spec (ws := ws) B.pre
  have hl := lv_entry av (n := maxL) hlen
  rw [lg_entry_eq]
  exact body p e s m below meth c _ B.exec B.bytes B.returns B.notSynchronized hml (findClass_of_methodNamed B.named) (fun w hw' => hts0 w (by rw [hw]; exact List.mem_cons_of_mem _ hw')) hK hP (gk_D hD0 (has σ τ)) va_S.rf hl
theorem gk_iret {post : Int32 → MI → ML → Prop} {v : Int32} (hx : p.tables.exec = Jvm.exec) (hb : c.code = cc) (hr : meth.sig.returnType = some .int) (hlocks : meth.locks = false) (hK : va_K D classes ty s) (hP : va_P D classes (wf σ τ) H) (hD : va_D (gA as s.heap.size) (wf σ τ)) (hS : va_S (gA as s.heap.size) s.heap H locs) (hv : post v σ τ) (hdg : decode cc pc = .ok (.ireturn, 1)) : W p l e R s m av.toArray below meth c H locs 0 0 (gQi D wf ty as below av s post) (F0 m pc ls [.int v]) :=
  W.iret hx hb hr (fun t ht hW => ⟨⟨v, (σ, τ), rfl, hv, by rw [ht]; exact hP, va_K.moved hW.alike hK, hD⟩, hS.F ht⟩) hS.2.2 hdg hlocks
theorem gk_zret {post : Int32 → MI → ML → Prop} {v : Int32} (hx : p.tables.exec = Jvm.exec) (hb : c.code = cc) (hr : meth.sig.returnType = some .boolean) (hlocks : meth.locks = false) (hz : narrow .boolean (.int v) = .int v) (hK : va_K D classes ty s) (hP : va_P D classes (wf σ τ) H) (hD : va_D (gA as s.heap.size) (wf σ τ)) (hS : va_S (gA as s.heap.size) s.heap H locs) (hv : post v σ τ) (hdg : decode cc pc = .ok (.ireturn, 1)) : W p l e R s m av.toArray below meth c H locs 0 0 (gQi D wf ty as below av s post) (F0 m pc ls [.int v]) :=
  W.zret hx hb hr hz (fun t ht hW => ⟨⟨v, (σ, τ), rfl, hv, by rw [ht]; exact hP, va_K.moved hW.alike hK, hD⟩, hS.F ht⟩) hS.2.2 hdg hlocks
theorem gk_lret {post : Int64 → MI → ML → Prop} {v : Int64} (hx : p.tables.exec = Jvm.exec) (hb : c.code = cc) (hr : meth.sig.returnType = some .long) (hlocks : meth.locks = false) (hK : va_K D classes ty s) (hP : va_P D classes (wf σ τ) H) (hD : va_D (gA as s.heap.size) (wf σ τ)) (hS : va_S (gA as s.heap.size) s.heap H locs) (hv : post v σ τ) (hdg : decode cc pc = .ok (.lreturn, 1)) : W p l e R s m av.toArray below meth c H locs 0 0 (gQl D wf ty as below av s post) (F0 m pc ls [.long v]) :=
  W.lret hx hb hr (fun t ht hW => ⟨⟨v, (σ, τ), rfl, hv, by rw [ht]; exact hP, va_K.moved hW.alike hK, hD⟩, hS.F ht⟩) hS.2.2 hdg hlocks
theorem gk_vret {post : MI → ML → Prop} (hx : p.tables.exec = Jvm.exec) (hb : c.code = cc) (hr : meth.sig.returnType = none) (hlocks : meth.locks = false) (hK : va_K D classes ty s) (hP : va_P D classes (wf σ τ) H) (hD : va_D (gA as s.heap.size) (wf σ τ)) (hS : va_S (gA as s.heap.size) s.heap H locs) (hv : post σ τ) (hdg : decode cc pc = .ok (.return_, 1)) : W p l e R s m av.toArray below meth c H locs 0 0 (gQv D wf ty as below av s post) (F0 m pc ls []) :=
  W.vret hx hb hr (fun t ht hW => ⟨⟨(σ, τ), rfl, hv, by rw [ht]; exact hP, va_K.moved hW.alike hK, hD⟩, hS.F ht⟩) hS.2.2 hdg hlocks
end GK

