section GXC
variable {p : Program} {l : Launch} {e : Env} {R : Room} {s : State} {m : MethodId} {args : Array Value} {below : List Frame} {meth : Method} {c : Code} {T : State} {H : Heap} {locs : List Loc} {cells slots : Nat} {Q Q' : State → Prop}
variable {y : MethodName} {ws : List Cond} {rm : Room} {Pc : Array Value → State → Prop} {Qc : Array Value → State → Outcome → State → Prop} {mc ms : Nat} {free : Addr → Prop}
/-- an invocation under way comes to its end, either way -/
theorem gx_doinvoke (X : Stand p l e R s m args below meth c T locs cells slots) (hM : MetX l y ws rm Pc Qc mc ms free) {g : JFrame} (hg : g.method = m) (hsize : g.locals.size = c.maxLocals) {ig : Instr} {len : Nat} (hdg : decode c.code g.pc = .ok (ig, len)) {a : Array Value} {mk : MethodId} {methY : Method} {cY : Code} {maxL : Nat}
    (hn : T.methodNamed? y = some mk) (hmY : T.vm.method? mk = some methY) (hcY : methY.code = some cY) (hlY : cY.maxLocals = maxL) (hini : (Cond.initialized y.cls).before a T = true) (hws : ∀ w ∈ ws, w.before a T = true) (hPc : Pc a (T.calling g mk a))
    (hframes : rm.frames + 1 ≤ R.frames) (hlocals : 2 * g.monitorRoom + (g.stack.map fun v => v.category).sum + (maxL + 11) + rm.locals ≤ R.locals) (hcells : cells + rm.cells ≤ R.cells) (hslots : slots + rm.slots ≤ R.slots) :
    (∃ (v : Option Value) (T' t : State) (L : List Loc), Stand p l e R s m args below meth c T' (locs ++ L) (cells + mc) (slots + ms) ∧ T'.heap = t.heap ∧ T'.vm = t.vm ∧ (∀ q ∈ L, free q.base) ∧ Qc a (T.calling g mk a) (.returned v) t ∧ Steps p.tables e below (doInvoke e (T.setTop g) [] mk a).1 (T'.setTop { g with pc := g.pc + len, stack := v.toList ++ g.stack })) ∨
    (∃ (b : Addr) (T' t : State) (L : List Loc), Stand p l e R s m args below meth c T' (locs ++ L) (cells + mc) (slots + ms) ∧ T'.heap = t.heap ∧ T'.vm = t.vm ∧ (∀ q ∈ L, free q.base) ∧ Qc a (T.calling g mk a) (.threw b) t ∧ Steps p.tables e below (doInvoke e (T.setTop g) [] mk a).1 ((T'.setTop g).pushFrame (.throwing b))) := by
  obtain ⟨kY, hkY, -⟩ := className_of_methodNamed hn
  have hinitY : kY.init = .initialized := Cond.initialized_spec (findClass_of_methodNamed hn) hkY hini
  have h : At T g.method c below := by rw [hg]; exact X.here
  have happ : (headSpec ws rm).appliesLoose y e.platform (T.calling g mk a) = true :=
    Spec.appliesLoose_calling (g := g) h hdg hn hkY hinitY
      (X.room_calling (g := g) (R' := rm) hsize hmY hcY hframes (by rw [hlY]; omega) hcells hslots) (atoms_intro hws)
  obtain ⟨mid, hmid⟩ := h.above
  have hfr : (T.setTop g).frames = (.java g :: mid) ++ below := by rw [State.frames_setTop' g h.top, hmid]; rfl
  obtain ⟨o, s₂, hsteps, -, hend, hq⟩ := Steps.callFree hM p X.admits X.cas X.clock (acts := []) hfr happ hPc trivial
  obtain ⟨hq', L, hW₂, hsm, hL⟩ := hq
  have hq' : Qc a (T.calling g mk a) o s₂ := hq'
  have hsm : (T.calling g mk a).sameButNew ({ s₂ with vm := (T.calling g mk a).vm } : State) L mc ms := hsm
  rw [State.frames_setTop' g h.top] at hend
  obtain ⟨e2, q2, q3, q4, q5, q6⟩ := hsm
  have e3 : s₂ = ({ (T.calling g mk a).setFrames s₂.frames with heap := s₂.heap, slotsUsed := s₂.slotsUsed } : State).setVm s₂.vm := by
    have : s₂ = ({ s₂ with vm := (T.calling g mk a).vm } : State).setVm s₂.vm := rfl
    rw [e2] at this
    exact this
  have hW' : T.WarmedH s₂.vm := hW₂
  obtain ⟨g₀, hg0⟩ := Option.isSome_iff_exists.mp h.top
  obtain ⟨r, hr⟩ := State.topJava?_eq_some.mp hg0
  have hr' : (({ T with heap := s₂.heap, slotsUsed := s₂.slotsUsed } : State).setVm s₂.vm).frames = .java g₀ :: r := hr
  have hsame : T.sameButNew ({ T with heap := s₂.heap, slotsUsed := s₂.slotsUsed } : State) L mc ms := by
    refine ⟨?_, q2, q3, q4, q5, q6⟩
    obtain ⟨t, ht, -⟩ := State.frames_cons hr
    show ({ T with heap := s₂.heap, slotsUsed := s₂.slotsUsed } : State) = { T.setFrames T.frames with heap := s₂.heap, slotsUsed := s₂.slotsUsed }
    rw [State.setFrames_self ht]
  have hStand : Stand p l e R s m args below meth c (({ T with heap := s₂.heap, slotsUsed := s₂.slotsUsed } : State).setVm s₂.vm) (locs ++ L) (cells + mc) (slots + ms) :=
    ⟨X.admits, X.cas, X.clock, X.frames, X.room, X.hears, X.method, X.code, (X.here.setHeapUsed s₂.heap s₂.slotsUsed).setVm hW'.alike, X.tail, State.WarmedH.trans X.warmed hW', X.limits, X.bytes, X.same.trans (hsame.setVm s.vm)⟩
  cases o with
  | returned v =>
    obtain ⟨c₂, i₂, len₂, hc₂, hd₂, hf₂⟩ := hend
    have hcc : c₂ = c := by
      have h1 : s₂.code? g.method = T.code? g.method := by
        rw [State.code?_eq, State.code?_eq, hW'.alike.method?]
      exact Option.some.inj (hc₂.symm.trans (h1.trans h.code))
    subst hcc
    have hlen : len₂ = len := by rw [hdg] at hd₂; cases hd₂; rfl
    subst hlen
    have hs₂ : s₂ = (({ T with heap := s₂.heap, slotsUsed := s₂.slotsUsed } : State).setVm s₂.vm).setTop { g with pc := g.pc + len₂, stack := v.toList ++ g.stack } := by
      refine e3.trans ?_
      rw [hf₂, State.calling_eq h.top, State.setFrames_setFrames, State.setTop_of_frames _ hr', hr]
      rfl
    refine Or.inl ⟨v, _, s₂, L, hStand, rfl, rfl, hL, hq', ?_⟩
    rw [← hs₂]
    exact hsteps
  | threw b =>
    have hf₂ : s₂.frames = .throwing b :: .java g :: T.frames.tail := hend
    have hs₂ : s₂ = ((({ T with heap := s₂.heap, slotsUsed := s₂.slotsUsed } : State).setVm s₂.vm).setTop g).pushFrame (.throwing b) := by
      refine e3.trans ?_
      rw [hf₂, State.calling_eq h.top, State.setFrames_setFrames, State.pushFrame, State.frames_setTop _ hr', State.setTop_of_frames _ hr', State.setFrames_setFrames, hr]
      rfl
    refine Or.inr ⟨b, _, s₂, L, hStand, rfl, rfl, hL, hq', ?_⟩
    rw [← hs₂]
    exact hsteps
/-- the note of a throw lies over the frame -/
def WT (p : Program) (l : Launch) (e : Env) (R : Room) (s : State) (m : MethodId) (args : Array Value) (below : List Frame) (meth : Method) (c : Code) (H : Heap) (locs : List Loc) (cells slots : Nat) (Q : State → Prop) (g : JFrame) (a : Addr) : Prop :=
  ∀ T : State, T.heap = H → Stand p l e R s m args below meth c T locs cells slots → ∃ t, Steps p.tables e below ((T.setTop g).pushFrame (.throwing a)) t ∧ Q t
end GXC
section GXC2
variable {p : Program} {l : Launch} {e : Env} {R : Room} {s : State} {m : MethodId} {args : Array Value} {below : List Frame} {meth : Method} {c : Code} {H : Heap} {locs : List Loc} {cells slots : Nat} {Q : State → Prop}
variable {D : va_G} {wf : MI → ML → va_W} {ty : List (ClassId × FieldType)} {as : List Nat} {y : MethodName} {ws : List Cond} {rm : Room} {av : List Value} {sz : Nat} {σ : MI} {τ : ML}
variable {cc bytes : ByteArray} {maxL nL index n pc : Nat} {ret : Option FieldType} {own C : String} {b : Addr} {As rest st0 : List Value} {ls : Array Slot}
theorem gx_pre {U : State} {g : JFrame} {mk : MethodId} {a : Array Value} (h : gPx D wf ty av sz σ τ a U) : gPx D wf ty av sz σ τ a (U.calling g mk a) :=
  ⟨gk_blind a U g mk h.1, h.2.moved (State.WarmedH.refl U) (fun _ _ h1 _ => h1)⟩
theorem gx_callV {post : Int32 → MI → ML → Prop} {thr : String → MI → ML → Prop} (S : CallFix p m c cc nL s args TB own) (hM : gMx l D wf ty as y ws rm (.ref b :: As) H.size σ τ post thr) (cw : CallW R s args own C index y bytes maxL ret ws rm 1 6 n) (hK : va_K D classes ty s) (hP : va_P D classes (wf σ τ) H) (hD : va_D (gA as s.heap.size) (wf σ τ)) (hS : va_S (gA as s.heap.size) s.heap H locs) (hXT : XT s) (hst : ∀ (q : Nat) (ce : Cell), s.heap[q]? = some ce → ce.vm.isStatics = true → ¬ gA as s.heap.size q)
    (hrecv : ∃ cellB : Cell, H[b]? = some cellB ∧ cellB.vm.isStatics = false ∧ s.vm.findClass C = some cellB.cls) (hn : As.length = n) (hsize : ls.size = nL) (hstack : st0 = As.reverse ++ .ref b :: rest) (hW : 2 * (F0 m pc ls st0).monitorRoom + (rest.map fun v => v.category).sum ≤ 8) (hdg : decode cc pc = .ok (.invokevirtual index, 3)) (hcs : cells + 1 ≤ R.cells ∧ slots + 6 ≤ R.slots)
    (kr : ∀ (r : Int32) (σ1 : MI) (τ1 : ML) (H1 : Heap) (locs1 : List Loc), post r σ1 τ1 → va_P D classes (wf σ1 τ1) H1 → va_D (gA as s.heap.size) (wf σ1 τ1) → va_S (gA as s.heap.size) s.heap H1 locs1 → W p l e R s m args below meth c H1 locs1 (cells + 1) (slots + 6) Q (F0 m (pc + 3) ls (.int r :: rest)))
    (kt : ∀ (a : Addr) (nm : String) (σ1 : MI) (τ1 : ML) (H1 : Heap) (locs1 : List Loc), thr nm σ1 τ1 → (∃ ce : Cell, H1[a]? = some ce ∧ ce.vm = .none ∧ s.vm.findClass nm = some ce.cls) → va_P D classes (wf σ1 τ1) H1 → va_D (gA as s.heap.size) (wf σ1 τ1) → va_S (gA as s.heap.size) s.heap H1 locs1 → WT p l e R s m args below meth c H1 locs1 (cells + 1) (slots + 6) Q (F0 m pc ls rest) a) : W p l e R s m args below meth c H locs cells slots Q (F0 m pc ls st0) := by
  obtain ⟨⟨hrc, hrs, hfr, hlo, hws, -, hcode, hini, hy, hlen, hlink⟩, hinst, hsel⟩ := cw
  obtain ⟨hx, hb, hml, hown, -⟩ := S
  obtain ⟨cellB, hcB, hoB, hclB⟩ := hrecv
  intro T hT X
  obtain ⟨mk, methM, hnamed, hmethM, hstM, habM⟩ := Cond.instanceMethod_spec hinst
  obtain ⟨methM', cM, hmethM', hcM, -, hlM, -, -, -, hsigM⟩ := Cond.code_spec hnamed hcode
  cases hmethM.symm.trans hmethM'
  obtain ⟨c2, r2, m2, q1, q2, q3, q4, kP, hkP, hkPi⟩ := Cond.selects_spec hsel
  cases hclB.symm.trans q1
  cases (State.methodFound?_of_named hnamed hy).symm.trans q2
  cases hnamed.symm.trans q3
  have hselP : selectMethod e.platform s.vm cellB.cls mk = .method mk := by rw [Launch.admits_selectMethod X.admits]; exact q4
  obtain ⟨vm₁, X₁, hstep₁⟩ := X.invokevirtual hx hown hlink hnamed hmethM hstM hkP hkPi hy (a := b) (cell := cellB) (by rw [hT]; exact hcB)
    (fun z h => by rw [h] at hoB; cases hoB) hselP hmethM habM hkP hkPi (g := F0 m pc ls st0) rfl (argsL := As) (rest := rest) (hn.trans (hlen _ hsigM)) hstack (by rw [hb]; exact hdg)
  have hW1 : s.WarmedH vm₁ := X₁.warmed
  have hH1 : (T.setVm vm₁).heap = H := hT
  have hstT : ∀ (q : Nat) (ce : Cell), s.heap[q]? = some ce → ce.vm.isStatics = true → (T.setVm vm₁).heap[q]? = some ce := fun q ce h1 h2 => by
    rw [hH1, hS.2.1 q (Array.getElem?_eq_some_iff.mp h1).1 (hst q ce h1 h2)]; exact h1
  have hPx : gPx D wf ty (.ref b :: As) H.size σ τ (Value.ref b :: As).toArray ((T.setVm vm₁).calling (F0 m pc ls rest) mk (Value.ref b :: As).toArray) :=
    gx_pre ⟨⟨rfl, by rw [hH1], by rw [hH1]; exact hP, va_K.moved (show s.vm.Alike (T.setVm vm₁).vm from hW1.alike) hK, hD.weaken (fun _ _ _ _ => trivial)⟩, hXT.moved (U := T.setVm vm₁) hW1 hstT⟩
  have hrm : 2 * (F0 m pc ls rest).monitorRoom = 2 * (F0 m pc ls st0).monitorRoom := rfl
  rcases gx_doinvoke X₁ hM (g := F0 m pc ls rest) rfl (hsize.trans hml.symm) (by rw [hb]; exact hdg) (X₁.named hnamed) (by show vm₁.method? mk = some methM; rw [hW1.alike.method?]; exact hmethM) hcM hlM
    (word_at (U := T.setVm vm₁) hW1 (Or.inl (by first | rfl | simp [Cond.onTables, Cond.keeps, Cond.steady])) hini) (fun w hw => hws w hw _ (T.setVm vm₁) hW1) hPx hfr (by show 2 * (F0 m pc ls rest).monitorRoom + (rest.map fun v => v.category).sum + (maxL + 11) + rm.locals ≤ R.locals; omega) (by omega) (by omega) with ⟨v, T', t, L, X', e1, e2, hL, hq, hs⟩ | ⟨a, T', t, L, X', e1, e2, hL, hq, hs⟩
  · obtain ⟨h1, hz, hk⟩ := hq
    rcases h1 with ⟨r, u, hv, hp, hB⟩ | ⟨a, nm, u, hv, -⟩
    · cases hv
      obtain ⟨σ1, τ1⟩ := u
      obtain ⟨hP1, hK1, hD1⟩ := hB
      have hz' : H.size ≤ T'.heap.size := by rw [e1]; have : ((T.setVm vm₁).calling (F0 m pc ls rest) mk (Value.ref b :: As).toArray).heap = H := hT; rw [this] at hz; exact hz
      have hk' : ∀ q : Nat, q < H.size → ¬ gA as H.size q → T'.heap[q]? = H[q]? := fun q h1 h2 => by
        have : ((T.setVm vm₁).calling (F0 m pc ls rest) mk (Value.ref b :: As).toArray).heap = H := hT
        rw [this] at hk
        rw [e1]; exact hk q h1 h2
      obtain ⟨t2, a1, b1⟩ := kr r σ1 τ1 T'.heap (locs ++ L) hp (by rw [e1]; exact hP1) (hD1.weaken (fun _ _ _ h => gk_A hS.1 _ h)) ⟨Nat.le_trans hS.1 hz', fun q h1 h2 => by rw [hk' q (Nat.lt_of_lt_of_le h1 hS.1) (fun z => h2 (gk_A hS.1 _ z))]; exact hS.2.1 q h1 h2, fun q hq => by
        rcases List.mem_append.mp hq with h | h
        · exact hS.2.2 q h
        · exact gk_A hS.1 _ (hL q h)⟩ T' rfl X'
      exact ⟨t2, hstep₁ _ (fun acts => by rw [doInvoke_state]; exact hs.trans a1), b1⟩
    · cases hv
  · obtain ⟨h1, hz, hk⟩ := hq
    rcases h1 with ⟨r, u, hv, -⟩ | ⟨a', nm, u, hv, hp, ⟨ce, hce, hcv, hcc⟩, hB⟩
    · cases hv
    · cases hv
      obtain ⟨σ1, τ1⟩ := u
      obtain ⟨hP1, hK1, hD1⟩ := hB
      have hz' : H.size ≤ T'.heap.size := by rw [e1]; have : ((T.setVm vm₁).calling (F0 m pc ls rest) mk (Value.ref b :: As).toArray).heap = H := hT; rw [this] at hz; exact hz
      have hk' : ∀ q : Nat, q < H.size → ¬ gA as H.size q → T'.heap[q]? = H[q]? := fun q h1 h2 => by
        have : ((T.setVm vm₁).calling (F0 m pc ls rest) mk (Value.ref b :: As).toArray).heap = H := hT
        rw [this] at hk
        rw [e1]; exact hk q h1 h2
      have hcc' : s.vm.findClass nm = some ce.cls := by
        have h3 : vm₁.findClass nm = some ce.cls := hcc
        rw [hW1.alike.findClass] at h3; exact h3
      obtain ⟨t2, a1, b1⟩ := kt a nm σ1 τ1 T'.heap (locs ++ L) hp ⟨ce, by rw [e1]; exact hce, hcv, hcc'⟩ (by rw [e1]; exact hP1) (hD1.weaken (fun _ _ _ h => gk_A hS.1 _ h)) ⟨Nat.le_trans hS.1 hz', fun q h1 h2 => by rw [hk' q (Nat.lt_of_lt_of_le h1 hS.1) (fun z => h2 (gk_A hS.1 _ z))]; exact hS.2.1 q h1 h2, fun q hq => by
        rcases List.mem_append.mp hq with h | h
        · exact hS.2.2 q h
        · exact gk_A hS.1 _ (hL q h)⟩ T' rfl X'
      exact ⟨t2, hstep₁ _ (fun acts => by rw [doInvoke_state]; exact hs.trans a1), b1⟩
end GXC2
theorem fh_cold {e : Env} {d : Bool} {acts : List Action} {E : CtlPost} {Q : Handler → Pre} {s : State} {f : JFrame} {a : Addr} {x : ExceptionTableEntry} {t : List ExceptionTableEntry} {c : ClassId} {cell : Cell} {vm' : Vm} (hx : covers x f.pc = true) (h0 : x.catchType ≠ 0)
    (hg : (Jvm.resolveClass f.method.cls x.catchType).Gives e.toSetting s.vm (.ok c) vm') (hsz : vm'.classes.size ≤ s.vm.classes.size) (hcell : s.heap[a]? = some cell) (hobj : ∀ k, cell.vm ≠ .statics k)
    (hk : ∃ k, vm'.classes[cell.cls]? = some k) (hc : ∃ k, vm'.classes[c]? = some k) :
    wp (findHandler.go f a (x :: t)) Q E e d acts s ↔ if vm'.assignable cell.cls c = true then Q (.found x.handlerPc) d acts (s.setVm vm') else wp (findHandler.go f a t) Q E e d acts (s.setVm vm') := by
  simp only [covers] at hx
  obtain ⟨ha, ht⟩ := hg.op (op := VmOp.resolveClass f.method.cls x.catchType) rfl
  cases hfit : vm'.assignable cell.cls c <;>
    simp [findHandler.go, hx, h0, ha, ht, hsz, hcell, hobj, hk, hc, hfit, VmOp.dirties, VmOp.acts]
/-- the search comes to the handler at hpc: those before it name other classes -/
def Srch (args : Array Value) (s : State) (own nm : String) (pc : Nat) : List ExceptionTableEntry → Nat → Prop
  | [], _ => False
  | x :: t, hpc => covers x pc = true ∧ x.catchType ≠ 0 ∧ ∃ C, (Cond.classLink own x.catchType C).before args s = true ∧ (((Cond.castable nm C).before args s = true ∧ hpc = x.handlerPc) ∨ ((Cond.not (Cond.castable nm C)).before args s = true ∧ Srch args s own nm pc t hpc))
theorem srch_go {e : Env} {args : Array Value} {s : State} {own nm : String} {g : JFrame} {a : Addr} {ce : Cell} (hpl : e.platform.magicAccessors = ({} : Platform).magicAccessors) (hown : s.vm.findClass own = some g.method.cls) (hcv : ce.vm = .none) (hcc : s.vm.findClass nm = some ce.cls) :
    ∀ (t : List ExceptionTableEntry) (hpc : Nat), Srch args s own nm g.pc t hpc → ∀ T : State, s.WarmedH T.vm → T.heap[a]? = some ce → ∃ vm' : Vm, s.WarmedH vm' ∧ ∀ (Q : Handler → Pre) (E : CtlPost) (d : Bool) (acts : List Action), wp (findHandler.go g a t) Q E e d acts T ↔ Q (.found hpc) d acts (T.setVm vm') := by
  intro t
  induction t with
  | nil => intro hpc h; exact h.elim
  | cons x t ih =>
    intro hpc h T hW hce
    obtain ⟨h1, h2, C, hlink, hor⟩ := h
    obtain ⟨cC, hfC, hcl⟩ := Cond.classLink_spec hown hlink e.platform hpl
    obtain ⟨hg₁, hwarm₁, hready₁⟩ := State.classEntry (e := e) hW hcl
    generalize T.vm.noted g.method.cls x.catchType (.cls cC) = vm₁ at hg₁ hwarm₁ hready₁
    have hsz : vm₁.classes.size ≤ T.vm.classes.size := by rw [hwarm₁.2.1, hW.2.1]; exact Nat.le_refl _
    have hA := hwarm₁.alike
    have hk : ∃ k, vm₁.classes[ce.cls]? = some k := Vm.classAt_of_findClass (name := nm) (by rw [hA.findClass]; exact hcc)
    have hc : ∃ k, vm₁.classes[cC]? = some k := Vm.classAt_of_findClass (name := C) (by rw [hA.findClass]; exact hfC)
    have hobj : ∀ k, ce.vm ≠ .statics k := fun k z => by rw [hcv] at z; cases z
    have key := fun (Q : Handler → Pre) (E : CtlPost) (d : Bool) (acts : List Action) => fh_cold (e := e) (d := d) (acts := acts) (E := E) (Q := Q) (s := T) (f := g) (a := a) (x := x) (t := t) h1 h2 hg₁ hsz hce hobj hk hc
    rcases hor with ⟨hcast, rfl⟩ | ⟨hnot, hrest⟩
    · obtain ⟨c3, c4, hc3, hc4, hasg⟩ := Cond.castable_spec hcast
      cases Option.some.inj (hc3.symm.trans hcc)
      cases Option.some.inj (hc4.symm.trans hfC)
      refine ⟨vm₁, hwarm₁, fun Q E d acts => ?_⟩
      rw [key, if_pos (by rw [hA.assignable]; exact hasg)]
    · have hno : s.vm.assignable ce.cls cC = false := by
        simp only [Cond.before, Cond.holds, Cond.value, hcc, hfC] at hnot
        simpa using hnot
      obtain ⟨vm₂, hw₂, hgo⟩ := ih hpc hrest (T.setVm vm₁) hwarm₁ hce
      refine ⟨vm₂, hw₂, fun Q E d acts => ?_⟩
      rw [key, if_neg (by rw [hA.assignable, hno]; decide), hgo]
      rfl
theorem stepThrowing_catchC {e : Env} {s : State} {a : Addr} {f : JFrame} {r : List Frame} {pc : Nat} {vm' : Vm} (hfind : ∀ (Q : Handler → Pre) (E : CtlPost) (d : Bool) (acts : List Action), wp (findHandler f a) Q E e d acts s ↔ Q (.found pc) d acts (s.setVm vm')) :
    (stepThrowing e s a (.java f :: r)).Is ((s.setVm vm').setFrames (.java { f with pc := pc, stack := [.ref a] } :: r)) [] := by
  simp only [stepThrowing, searchFrame, vmDo]
  generalize hr : Sem.go _ e false [] s = res
  obtain ⟨as, rfl, ha⟩ := Sem.eq_ok_of hr (a := Handler.found pc) (s' := s.setVm vm') (acts' := []) (by simp [hfind _ _ _ _])
  exact ⟨rfl, ha⟩
section GXD
variable {p : Program} {l : Launch} {e : Env} {R : Room} {s : State} {m : MethodId} {args : Array Value} {below : List Frame} {meth : Method} {c : Code} {H : Heap} {locs : List Loc} {cells slots : Nat} {Q : State → Prop}
theorem gx_catch {own nm : String} {pc hpc : Nat} {ls : Array Slot} {rest : List Value} {a : Addr} {tab : List ExceptionTableEntry} (hown : s.vm.findClass own = some m.cls) (htab : c.exceptionTable.toList = tab) (hs : Srch args s own nm pc tab hpc) (hce : ∃ ce : Cell, H[a]? = some ce ∧ ce.vm = .none ∧ s.vm.findClass nm = some ce.cls)
    (k : W p l e R s m args below meth c H locs cells slots Q (F0 m hpc ls [.ref a])) : WT p l e R s m args below meth c H locs cells slots Q (F0 m pc ls rest) a := by
  intro T hT X
  obtain ⟨ce, h1, h2, h3⟩ := hce
  have hpl : e.platform.magicAccessors = ({} : Platform).magicAccessors := by rw [X.admits.platform]
  have h : At T (F0 m pc ls rest).method c below := X.here
  have hvm : ((T.setTop (F0 m pc ls rest)).pushFrame (.throwing a)).vm = T.vm := throwing_vm T (F0 m pc ls rest) a
  have hhp : ((T.setTop (F0 m pc ls rest)).pushFrame (.throwing a)).heap = T.heap := throwing_heap T (F0 m pc ls rest) a
  obtain ⟨vm', hW', hgo⟩ := srch_go (e := e) (args := args) (s := s) (own := own) (nm := nm) (g := F0 m pc ls rest) (a := a) hpl hown h2 h3 tab hpc hs ((T.setTop (F0 m pc ls rest)).pushFrame (.throwing a)) (by rw [hvm]; exact X.warmed) (by rw [hhp, hT]; exact h1)
  have hfind : ∀ (Q : Handler → Pre) (E : CtlPost) (d : Bool) (acts : List Action), wp (findHandler (F0 m pc ls rest) a) Q E e d acts ((T.setTop (F0 m pc ls rest)).pushFrame (.throwing a)) ↔ Q (.found hpc) d acts (((T.setTop (F0 m pc ls rest)).pushFrame (.throwing a)).setVm vm') := by
    intro Q E d acts
    rw [W.findHandler_eq (meth := meth) (code := c) (by rw [hvm]; exact X.method') X.code, htab]
    exact hgo Q E d acts
  obtain ⟨t, a1, b1⟩ := k (T.setVm vm') hT (X.noted hW')
  refine ⟨t, ?_, b1⟩
  obtain ⟨hgo2, hw⟩ := h.throwing a
  refine Steps.head hgo2 hw ?_
  rw [stepThread_throwing (frames_entered h.top _), (stepThrowing_catchC hfind).1]
  obtain ⟨g₀, hg⟩ := Option.isSome_iff_exists.mp h.top
  obtain ⟨r, hr⟩ := State.topJava?_eq_some.mp hg
  have hr2 : (T.setVm vm').frames = .java g₀ :: r := hr
  have e1 : (((T.setTop (F0 m pc ls rest)).pushFrame (.throwing a)).setVm vm').setFrames (.java { F0 m pc ls rest with pc := hpc, stack := [.ref a] } :: T.frames.tail) = (T.setVm vm').setTop (F0 m hpc ls [.ref a]) := by
    rw [State.setTop_of_frames _ hr2, State.pushFrame, State.setTop_of_frames _ hr, State.setFrames_setFrames]
    show ((T.setFrames _).setVm vm').setFrames _ = _
    rw [hr]
    show ((T.setFrames _).setFrames _).setVm vm' = ((T.setFrames _)).setVm vm'
    rw [State.setFrames_setFrames]
    rfl
  rw [e1]
  exact a1
end GXD

