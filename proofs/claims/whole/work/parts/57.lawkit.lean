/-! the law's walk: its end, its entry, its calls -/
def R_law : String := "PilotTugsLaw"
def lw_P (b : Addr) (xs : List Int32) (args : Array Value) (s : State) : Prop := args = #[.ref b] ∧ s.IntsAt b xs ∧ xs.length ≤ 3072 ∧ (Jvm.Cond.and given_1 narrow_1).before args s = true
def lw_Q (_ : Array Value) (s : State) (o : Outcome) (t : State) : Prop := o = .returned (some (.int 1)) ∧ Framed s o t [] 1089 9371
def lw_Z (below : List Frame) (a : Array Value) (s : State) : State → Prop := fun t => ∃ o, t.status = .running ∧ Ended t below o ∧ lw_Q a s o t
theorem lw_ret {p : Program} {l : Launch} {e : Env} {s : State} {m : MethodId} {below : List Frame} {meth : Method} {c : Code} {b : Nat} (hx : p.tables.exec = Jvm.exec) (hb : c.code = code) (hr : meth.sig.returnType = ret) (hlocks : meth.locks = false) {pc : Nat} {H : Heap} {ls : Array Slot} (hdg : decode code pc = .ok (.ireturn, 1)) : W p l e room_1 s m #[Value.ref b] below meth c H [] 1089 9371 (lw_Z below #[Value.ref b] s) (F0 m pc ls [.int 1]) := by
  intro T hT X
  obtain ⟨fs, hret, hrun, hended, hW, hframe⟩ := X.leave (v := some (.int 1)) (hlocks := hlocks) (fun h => by rw [hr] at h; cases h)
  have hmeth' : T.vm.method? m = some meth := X.method'
  refine ⟨T.setFrames fs, ?_, .returned (some (.int 1)), hrun, hended, rfl, ⟨_, rfl⟩, hW, hframe⟩
  jvm_step X.here [X.here.top, hx, hb, hdg, hmeth', hr, ret, narrow_b1]
  (try refine ⟨rfl, ?_⟩); (try refine ⟨rfl, ?_⟩)
  first | (intro acts; rw [hret _ acts rfl rfl rfl]) | rw [hret _ _ rfl rfl rfl]
  exact Steps.refl _
def lw_At (p : Program) (s : State) (m : MethodId) (meth : Method) (c : Code) (b L : Nat) (xs : Nat → Int32) : Prop :=
  p.tables.exec = Jvm.exec ∧ c.code = code ∧ meth.sig.returnType = ret ∧ c.maxLocals = 7 ∧ s.vm.findClass R_law = some m.cls ∧ (∀ w ∈ lw_tbl, w.before #[Value.ref b] s = true) ∧ va_X b L xs s s.heap ∧ b < s.heap.size ∧ meth.locks = false ∧ (Jvm.Cond.and given_1 narrow_1).before #[Value.ref b] s = true
section GWC
variable {p : Program} {l : Launch} {e : Env} {R : Room} {s : State} {m : MethodId} {args : Array Value} {below : List Frame} {meth : Method} {c : Code} {H : Heap} {locs : List Loc} {cells slots : Nat} {Q : State → Prop}
variable {D : va_G} {wf : MI → ML → va_W} {ty : List (ClassId × FieldType)} {as : List Nat} {y : MethodName} {ws : List Cond} {rm : Room} {av : List Value} {sz : Nat} {σ : MI} {τ : ML}
variable {cc bytes : ByteArray} {maxL nL index n pc : Nat} {ret : Option FieldType} {own C : String} {b : Addr} {As rest st0 : List Value} {ls : Array Slot}
/-- a static call of a method that catches all -/
theorem gw_callS {post : Int32 → MI → ML → Prop} {hd : List (Nat × Nat × Nat × Nat)} (hx : p.tables.exec = Jvm.exec) (hb : c.code = cc) (hml : c.maxLocals = nL) (hown : s.vm.findClass own = some m.cls) (hM : gMw l D wf ty as y ws rm As H.size σ τ post)
    (hlink : (Cond.methodLink own index y).before args s = true) (hstat : (Cond.static y).before args s = true) (hini : (Cond.initialized y.cls).before args s = true) (hcode : (Cond.codeWith y bytes maxL ret hd).before args s = true) (hws : ∀ w ∈ ws, w.before args s = true ∧ ((w.onTables && w.keeps) = true ∨ ∃ ty, w = .arrayClass ty)) (hy : y.cls ≠ "java/lang/invoke/MethodHandle" ∧ y.cls ≠ "java/lang/invoke/VarHandle") (hlen : (parseMethodDescriptor y.desc).map (fun d => d.parameters.length) = some n)
    (hfr : rm.frames + 1 ≤ R.frames) (hlo : 8 + (maxL + 11) + rm.locals ≤ R.locals) (hrc : rm.cells = 1) (hrs : rm.slots = 6)
    (hK : va_K D classes ty s) (hP : va_P D classes (wf σ τ) H) (hD : va_D (gA as s.heap.size) (wf σ τ)) (hS : va_S (gA as s.heap.size) s.heap H locs) (hXT : XT s) (hst : ∀ (q : Nat) (ce : Cell), s.heap[q]? = some ce → ce.vm.isStatics = true → ¬ gA as s.heap.size q)
    (hn : As.length = n) (hsize : ls.size = nL) (hstack : st0 = As.reverse ++ rest) (hW : 2 * (F0 m pc ls st0).monitorRoom + (rest.map fun v => v.category).sum ≤ 8) (hdg : decode cc pc = .ok (.invokestatic index, 3)) (hcs : cells + 1 ≤ R.cells ∧ slots + 6 ≤ R.slots)
    (kr : ∀ (r : Int32) (σ1 : MI) (τ1 : ML) (H1 : Heap) (locs1 : List Loc), post r σ1 τ1 → va_P D classes (wf σ1 τ1) H1 → va_D (gA as s.heap.size) (wf σ1 τ1) → va_S (gA as s.heap.size) s.heap H1 locs1 → W p l e R s m args below meth c H1 locs1 (cells + 1) (slots + 6) Q (F0 m (pc + 3) ls (.int r :: rest))) : W p l e R s m args below meth c H locs cells slots Q (F0 m pc ls st0) := by
  intro T hT X
  obtain ⟨mk, methM, cM, hnamed, hmethM, hcM, -, hlM, -, -, -, hsigM⟩ := Cond.codeWith_spec hcode
  have hlen' : As.length = methM.sig.parameters.length := by
    rw [hsigM] at hlen; exact hn.trans (Option.some.inj hlen).symm
  have hstatic : methM.isStatic = true := Cond.static_spec hnamed hmethM hstat
  obtain ⟨kP, hkP, -⟩ := className_of_methodNamed hnamed
  have hinitP : kP.init = .initialized := Cond.initialized_spec (findClass_of_methodNamed hnamed) hkP hini
  obtain ⟨vm₁, X₁, hstep₁⟩ := X.invokestatic hx hown hlink hnamed hmethM hstatic hkP hinitP hy (g := F0 m pc ls st0) rfl (argsL := As) (rest := rest) hlen' hstack (by rw [hb]; exact hdg)
  have hW1 : s.WarmedH vm₁ := X₁.warmed
  have hH1 : (T.setVm vm₁).heap = H := hT
  have hstT : ∀ (q : Nat) (ce : Cell), s.heap[q]? = some ce → ce.vm.isStatics = true → (T.setVm vm₁).heap[q]? = some ce := fun q ce h1 h2 => by
    rw [hH1, hS.2.1 q (Array.getElem?_eq_some_iff.mp h1).1 (hst q ce h1 h2)]; exact h1
  have hPx : gPx D wf ty As H.size σ τ As.toArray ((T.setVm vm₁).calling (F0 m pc ls rest) mk As.toArray) :=
    gx_pre ⟨⟨rfl, by rw [hH1], by rw [hH1]; exact hP, va_K.moved (show s.vm.Alike (T.setVm vm₁).vm from hW1.alike) hK, hD.weaken (fun _ _ _ _ => trivial)⟩, hXT.moved (U := T.setVm vm₁) hW1 hstT⟩
  have hrm : 2 * (F0 m pc ls rest).monitorRoom = 2 * (F0 m pc ls st0).monitorRoom := rfl
  rcases gx_doinvoke X₁ hM (g := F0 m pc ls rest) rfl (hsize.trans hml.symm) (by rw [hb]; exact hdg) (X₁.named hnamed) (by show vm₁.method? mk = some methM; rw [hW1.alike.method?]; exact hmethM) hcM hlM
    (word_at (U := T.setVm vm₁) hW1 (Or.inl (by first | rfl | simp [Cond.onTables, Cond.keeps, Cond.steady])) hini) (fun w hw => word_at (U := T.setVm vm₁) hW1 (hws w hw).2 (hws w hw).1) hPx hfr (by show 2 * (F0 m pc ls rest).monitorRoom + (rest.map fun v => v.category).sum + (maxL + 11) + rm.locals ≤ R.locals; omega) (by omega) (by omega) with ⟨v, T', t, L, X', e1, e2, hL, hq, hs⟩ | ⟨a, T', t, L, X', e1, e2, hL, hq, hs⟩
  · obtain ⟨h1, hz, hk⟩ := hq
    obtain ⟨r, u, hv, hp, hB⟩ := h1
    cases hv
    obtain ⟨σ1, τ1⟩ := u
    obtain ⟨hP1, hK1, hD1⟩ := hB
    have hz' : H.size ≤ T'.heap.size := by rw [e1]; have : ((T.setVm vm₁).calling (F0 m pc ls rest) mk As.toArray).heap = H := hT; rw [this] at hz; exact hz
    have hk' : ∀ q : Nat, q < H.size → ¬ gA as H.size q → T'.heap[q]? = H[q]? := fun q h1 h2 => by
      have : ((T.setVm vm₁).calling (F0 m pc ls rest) mk As.toArray).heap = H := hT
      rw [this] at hk
      rw [e1]; exact hk q h1 h2
    obtain ⟨t2, a1, b1⟩ := kr r σ1 τ1 T'.heap (locs ++ L) hp (by rw [e1]; exact hP1) (hD1.weaken (fun _ _ _ h => gk_A hS.1 _ h)) ⟨Nat.le_trans hS.1 hz', fun q h1 h2 => by rw [hk' q (Nat.lt_of_lt_of_le h1 hS.1) (fun z => h2 (gk_A hS.1 _ z))]; exact hS.2.1 q h1 h2, fun q hq => by
      rcases List.mem_append.mp hq with h | h
      · exact hS.2.2 q h
      · exact gk_A hS.1 _ (hL q h)⟩ T' rfl X'
    exact ⟨t2, hstep₁ _ (fun acts => by rw [doInvoke_state]; exact hs.trans a1), b1⟩
  · obtain ⟨h1, hz, hk⟩ := hq
    obtain ⟨r, u, hv, -⟩ := h1
    cases hv
end GWC

