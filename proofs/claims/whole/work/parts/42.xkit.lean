def reb (s T : State) : State := { s with heap := T.heap, slotsUsed := T.slotsUsed }
def rebR (R : Room) (cells slots : Nat) : Room := { R with cells := R.cells - cells, slots := R.slots - slots }
section GX
variable {p : Program} {l : Launch} {e : Env} {R : Room} {s : State} {m : MethodId} {args : Array Value} {below : List Frame} {meth : Method} {c : Code} {T : State} {H : Heap} {locs : List Loc} {cells slots : Nat} {Q Q' : State → Prop}
theorem gx_reb (X : Stand p l e R s m args below meth c T locs cells slots) (hc : cells ≤ R.cells) (hs : slots ≤ R.slots) : Stand p l e (rebR R cells slots) (reb s T) m args below meth c T [] 0 0 := by
  have hroom : (reb s T).hasRoom e.platform (rebR R cells slots) = true := by
    have h := X.room
    have h1 := X.heapSize
    have h2 := X.used
    have h3 := X.book
    simp only [State.hasRoom, Bool.and_eq_true, decide_eq_true_eq] at h ⊢
    obtain ⟨⟨⟨⟨a1, a2⟩, a3⟩, a4⟩, a5⟩ := h
    refine ⟨⟨⟨⟨a1, a2⟩, ?_⟩, ?_⟩, h3⟩
    · show T.heap.size + (R.cells - cells) ≤ _; omega
    · show T.slotsUsed + (R.slots - slots) ≤ _; omega
  refine ⟨X.admits, X.cas, X.clock, X.frames, hroom, X.hears, X.method, X.code, X.here, X.tail, X.warmed, X.limits, X.bytes, ?_⟩
  have e1 := X.same.1
  refine ⟨?_, Nat.le_refl _, Nat.le_refl _, ?_, ?_, fun a ce h => ⟨ce, h, rfl, rfl, fun _ _ => rfl⟩⟩
  · exact e1
  · show T.slotsUsed = T.slotsUsed + ((T.heap.toList.drop T.heap.size).map (·.slots.size)).sum
    rw [List.drop_eq_nil_of_le (by simp)]; rfl
  · show ((T.heap.toList.drop T.heap.size).map (·.slots.size)).sum ≤ 0
    rw [List.drop_eq_nil_of_le (by simp)]; exact Nat.le_refl _
theorem gx_mono {g : JFrame} (h : ∀ t, Q t → Q' t) (w : W p l e R s m args below meth c H locs cells slots Q g) : W p l e R s m args below meth c H locs cells slots Q' g := fun T hT X => by
  obtain ⟨t, h1, h2⟩ := w T hT X
  exact ⟨t, h1, h t h2⟩
theorem gx_W {g : JFrame} (hc : cells ≤ R.cells) (hs : slots ≤ R.slots) (h : ∀ T, T.heap = H → Stand p l e R s m args below meth c T locs cells slots → W p l e (rebR R cells slots) (reb s T) m args below meth c H [] 0 0 Q g) : W p l e R s m args below meth c H locs cells slots Q g := fun T hT X => h T hT X T hT (gx_reb X hc hs)
/-- back from the later start -/
theorem gx_same {U : State} {L : List Loc} {k n : Nat} (X : Stand p l e R s m args below meth c T locs cells slots) (h : (reb s T).sameButNew ({ U with vm := s.vm } : State) L k n) : s.sameButNew ({ U with vm := s.vm } : State) (locs ++ L) (cells + k) (slots + n) := by
  refine X.same.trans ⟨?_, h.2.1, h.2.2.1, h.2.2.2.1, h.2.2.2.2.1, h.2.2.2.2.2⟩
  refine h.1.trans ?_
  have e1 : (T.setVm s.vm).setFrames ({ U with vm := s.vm } : State).frames = ({ s.setFrames ({ U with vm := s.vm } : State).frames with heap := T.heap, slotsUsed := T.slotsUsed } : State) := by
    rw [X.same.1]
    show ({ (s.setFrames (T.setVm s.vm).frames).setFrames ({ U with vm := s.vm } : State).frames with heap := T.heap, slotsUsed := T.slotsUsed } : State) = _
    rw [State.setFrames_setFrames]
  rw [e1]
  rfl
theorem gx_ldc {cc : ByteArray} {own text : String} {index : Nat} {a : Addr} {pc : Nat} {ls : Array Slot} {st : List Value} (hx : p.tables.exec = Jvm.exec) (hb : c.code = cc) (hown : s.vm.findClass own = some m.cls) (hconst : (Cond.stringRef own index text).before args s = true) (hev : (Term.string own index).eval args s none [] s = some (.ref a)) (hdg : decode cc pc = .ok (.ldc index, 2))
    (kk : W p l e R s m args below meth c H locs cells slots Q (F0 m (pc + 2) ls (.ref a :: st))) : W p l e R s m args below meth c H locs cells slots Q (F0 m pc ls st) := fun T hT X => by
  obtain ⟨t, h1, h2⟩ := kk T hT X
  exact ⟨t, X.ldcString hx hown hconst hev (g := F0 m pc ls st) rfl (by rw [hb]; exact hdg) t h1, h2⟩
end GX
def xk : Cond → Bool
  | .declares _ => true
  | .castable _ _ => true
  | .not (.castable _ _) => true
  | .laysStatic _ _ _ => true
  | .isRef (.static _ _ _) => true
  | .stringRef _ _ _ => true
  | _ => false
theorem xk_move {w : Cond} {a a' : Array Value} {s U : State} (hk : xk w = true) (h : w.before a s = true) (hW : s.WarmedH U.vm) (hH : ∀ (q : Nat) (ce : Cell), s.heap[q]? = some ce → ce.vm.isStatics = true → U.heap[q]? = some ce) : w.before a' U = true := by
  have hA := hW.alike
  have tb : ∀ c : Cond, c.onTables = true → c.faceAtom = true → c.before a s = true → c.before a' U = true := by
    intro c h1 h2 h3
    have h4 := Cond.faceAtom_setVm hA c h2 h3
    rw [Cond.onTables_vm (A' := a') (U' := U) U.vm c h1, State.setVm_self] at h4
    exact h4
  cases w with
  | declares x => exact tb _ rfl rfl h
  | castable x y => exact tb _ rfl rfl h
  | not c =>
    cases c with
    | castable x y =>
      simp only [Cond.before, Cond.holds, Cond.value, hA.findClass, hA.assignable] at h ⊢
      exact h
    | _ => simp [xk] at hk
  | laysStatic o n d =>
    have h2 : (Cond.laysStatic o n d).before a (s.setVm U.vm) = true := Cond.before_shiftedFace (State.Shifted.of_warmed hW) _ rfl h
    have e1 : (s.setVm U.vm).fieldFound? o n d = U.fieldFound? o n d := rfl
    have e2 : (s.setVm U.vm).vm = U.vm := rfl
    have e3 : (s.setVm U.vm).heap = s.heap := rfl
    simp only [Cond.before, Cond.holds, Cond.value, e1, e2, e3] at h2 ⊢
    cases hf : U.vm.findClass o with
    | none => simp [hf] at h2
    | some c =>
      cases hg : U.fieldFound? o n d with
      | none => simp [hf, hg] at h2
      | some z =>
        obtain ⟨c', k, i, f⟩ := z
        cases hs : k.statics with
        | none => simp [hf, hg, hs] at h2
        | some aS =>
          cases hh : s.heap[aS]? with
          | none => simp [hf, hg, hs, hh] at h2
          | some cell =>
            simp only [hf, hg, hs, hh, Option.bind_some, Option.map_some] at h2 ⊢
            have hst : cell.vm.isStatics = true := by
              simp only [beq_iff_eq, Option.some.injEq, Bool.and_eq_true] at h2
              exact h2.1.1.1.2
            rw [hH aS cell hh hst]
            exact h2
  | isRef t =>
    cases t with
    | static o n d =>
      have h2 : (Cond.isRef (.static o n d)).before a (s.setVm U.vm) = true := Cond.before_shiftedFace (State.Shifted.of_warmed hW) _ rfl h
      have e1 : (s.setVm U.vm).fieldNamed? o n d true = U.fieldNamed? o n d true := rfl
      have e3 : (s.setVm U.vm).heap = s.heap := rfl
      simp only [Cond.before, Cond.holds, Cond.value, Term.eval, e1, e3] at h2 ⊢
      cases hg : U.fieldNamed? o n d true with
      | none => simp [hg] at h2
      | some z =>
        obtain ⟨c', k, i⟩ := z
        cases hs : k.statics with
        | none => simp [hg, hs] at h2
        | some aS =>
          cases hh : s.heap[aS]? with
          | none => simp [hg, hs, hh] at h2
          | some cell =>
            by_cases hst : cell.vm.isStatics = true
            · rw [hg] at h2
              simp only [hs, hh, Option.bind_eq_bind, Option.bind_some] at h2 ⊢
              rw [hH aS cell hh hst]
              simpa [hst] using h2
            · simp [hg, hs, hh, hst] at h2
    | _ => simp [xk] at hk
  | stringRef o i t =>
    have e1 : U.names o i (.string t) = s.names o i (.string t) := State.names_setVm (s := s) hA o i (.string t)
    simp only [Cond.before, Cond.holds, Cond.value, hA.findClass, e1] at h ⊢
    cases hf : s.vm.findClass o with
    | none => simp [hf] at h
    | some d =>
      cases hk1 : s.vm.classes[d]? with
      | none => simp [hf, State.resolvedAt?, hk1] at h
      | some k =>
        obtain ⟨k', hk2, -⟩ := hA.2.2 _ _ hk1
        have hr : (k'.resolved[i]?).join = (k.resolved[i]?).join := by
          rcases hW.entry hk1 hk2 i with z | ⟨z, -⟩
          · rw [z]
          · simp [hf, State.resolvedAt?, hk1, z] at h
        simp only [hf, State.resolvedAt?, hA.findClass, hk1, hk2, hr, Option.bind_eq_bind, Option.bind_some] at h ⊢
        exact h
  | _ => simp [xk] at hk
def txok (w : Cond) : Bool := goodWord w || xk w
theorem tx_move {w : Cond} {a a' : Array Value} {s U : State} (hk : txok w = true) (h : w.before a s = true) (hW : s.WarmedH U.vm) (hH : ∀ (q : Nat) (ce : Cell), s.heap[q]? = some ce → ce.vm.isStatics = true → U.heap[q]? = some ce) : w.before a' U = true := by
  rcases Bool.or_eq_true _ _ ▸ hk with z | z
  · exact word_at hW (good_of_word z) h
  · exact xk_move z h hW hH
/-- the classes above the four exceptions -/
def nmX : List String := ["java/lang/RuntimeException", "java/lang/Exception"]
def xIA : String := "java/lang/IllegalArgumentException"
def xIS : String := "java/lang/IllegalStateException"
def xIO : String := "java/lang/IndexOutOfBoundsException"
def xAR : String := "java/lang/ArithmeticException"
def TXs : List Cond := [.stringRef "PilotTugs" 64 "licence, hours or home can't be", .stringRef "PilotTugs" 75 "no more people", .stringRef "PilotTugs" 90 "pull can't be", .stringRef "PilotTugs" 93 "no more tugs", .stringRef "PilotTugs" 98 "licence, pull or place can't be", .stringRef "PilotTugs" 100 "times can't be", .stringRef "PilotTugs" 103 "no more jobs", .stringRef "PilotTugs" 136 "no such job or what", .stringRef "PilotTugs" 139 "no plan", .stringRef "PilotTugs" 156 "no such job", .stringRef "PilotTugs" 171 "nobody such", .stringRef "PilotTugs" 184 "part or all can't be", .stringRef "PilotTugs" 188 "a share of nothing",
  .classLink "PilotTugs" 62 xIA, .classLink "PilotTugs" 73 xIS, .classLink "PilotTugs" 134 xIO, .classLink "PilotTugs" 186 xAR, .initialized xIA, .initialized xIS, .initialized xIO, .initialized xAR,
  .classLink "PilotTugsLaw" 13 xIA, .classLink "PilotTugsLaw" 15 xIS, .classLink "PilotTugsLaw" 29 xIO, .classLink "PilotTugsLaw" 43 xAR,
  .not (.castable xIS xIA), .not (.castable xIO xIA), .not (.castable xAR xIA), .not (.castable xIA xIS), .not (.castable xIO xIS), .not (.castable xAR xIS), .not (.castable xIA xIO), .not (.castable xIS xIO), .not (.castable xAR xIO), .not (.castable xIA xAR), .not (.castable xIS xAR), .not (.castable xIO xAR)]
def TXo : List Cond := Jvm.Bundle.ownAtoms "PilotTugs" 66 xIA nmX ++ (Jvm.Bundle.ownAtoms "PilotTugs" 77 xIS nmX ++ (Jvm.Bundle.ownAtoms "PilotTugs" 138 xIO nmX ++ Jvm.Bundle.ownAtoms "PilotTugs" 190 xAR nmX))
def TX : List Cond := TXo ++ TXs
theorem TX_all : TX.all txok = true := by decide +kernel
theorem TX_ok : ∀ w ∈ TX, txok w = true := fun w h => List.all_eq_true.mp TX_all w h
def XT (U : State) : Prop := ∀ w ∈ TX, w.before #[] U = true
theorem XT.moved {s U : State} (h : XT s) (hW : s.WarmedH U.vm) (hH : ∀ (q : Nat) (ce : Cell), s.heap[q]? = some ce → ce.vm.isStatics = true → U.heap[q]? = some ce) : XT U := fun w hw => tx_move (TX_ok w hw) (h w hw) hW hH
/-! contracts of methods that may throw -/
def MQX (below : List Frame) (Qc : Array Value → State → Outcome → State → Prop) (a : Array Value) (s : State) (mc ms : Nat) (free : Addr → Prop) : State → Prop := fun t =>
  ∃ o, t.status = .running ∧ Ended t below o ∧ Qc a s o t ∧ ∃ L, s.WarmedH t.vm ∧ s.sameButNew ({ t with vm := s.vm } : State) L mc ms ∧ ∀ q ∈ L, free q.base
def MetX (l : Launch) (y : MethodName) (ws : List Cond) (rm : Room) (Pc : Array Value → State → Prop) (Qc : Array Value → State → Outcome → State → Prop) (mc ms : Nat) (free : Addr → Prop) : Prop :=
  MetFree l y (headSpec ws rm) Pc (fun _ _ _ _ _ => True) (fun a st o t => Qc a st o t ∧ ∃ L, st.WarmedH t.vm ∧ st.sameButNew ({ t with vm := st.vm } : State) L mc ms ∧ ∀ q ∈ L, free q.base)
theorem MQX_of {below : List Frame} {Qc : Array Value → State → Outcome → State → Prop} {a : Array Value} {s : State} {mc ms : Nat} {free : Addr → Prop} {t : State} (h : MQ below Qc a s mc ms free t) : MQX below Qc a s mc ms free t := by
  obtain ⟨o, h1, h2, h3, L, h4, h5⟩ := h
  exact ⟨o, h1, h2, h3, L, h4.2.1, h4.2.2, h5⟩
def gPx (D : va_G) (wf : MI → ML → va_W) (ty : List (ClassId × FieldType)) (av : List Value) (sz : Nat) (σ : MI) (τ : ML) : Array Value → State → Prop := fun v U => gPc D wf ty av sz σ τ v U ∧ XT U
/-- a thrown object -/
def gTh (nm : String) (st : State) (a : Addr) (t : State) : Prop := ∃ ce : Cell, t.heap[a]? = some ce ∧ ce.vm = .none ∧ st.vm.findClass nm = some ce.cls
def xQ (D : va_G) (wf : MI → ML → va_W) (ty : List (ClassId × FieldType)) (as : List Nat) (sz : Nat) (post : Int32 → MI → ML → Prop) (thr : String → MI → ML → Prop) : Array Value → State → Outcome → State → Prop := fun _ st oc t =>
  ((∃ (r : Int32) (u : MI × ML), oc = .returned (some (.int r)) ∧ post r u.1 u.2 ∧ gB D wf ty as sz u t) ∨ (∃ (a : Addr) (nm : String) (u : MI × ML), oc = .threw a ∧ thr nm u.1 u.2 ∧ gTh nm st a t ∧ gB D wf ty as sz u t)) ∧ va_F (gA as sz) st t
def gMx (l : Launch) (D : va_G) (wf : MI → ML → va_W) (ty : List (ClassId × FieldType)) (as : List Nat) (y : MethodName) (ws : List Cond) (rm : Room) (av : List Value) (sz : Nat) (σ : MI) (τ : ML) (post : Int32 → MI → ML → Prop) (thr : String → MI → ML → Prop) : Prop :=
  MetX l y ws rm (gPx D wf ty av sz σ τ) (xQ D wf ty as sz post thr) 1 6 (gA as sz)
def gQx (D : va_G) (wf : MI → ML → va_W) (ty : List (ClassId × FieldType)) (as : List Nat) (below : List Frame) (av : List Value) (s : State) (post : Int32 → MI → ML → Prop) (thr : String → MI → ML → Prop) : State → Prop :=
  MQX below (xQ D wf ty as s.heap.size post thr) av.toArray s 1 6 (gA as s.heap.size)
section GX2
variable {p : Program} {l : Launch} {e : Env} {R : Room} {s : State} {m : MethodId} {args : Array Value} {below : List Frame} {meth : Method} {c : Code} {H : Heap} {locs : List Loc} {cells slots : Nat} {Q : State → Prop}
variable {D : va_G} {wf : MI → ML → va_W} {ty : List (ClassId × FieldType)} {as : List Nat} {y : MethodName} {ws : List Cond} {rm : Room} {av : List Value} {sz : Nat} {σ : MI} {τ : ML}
variable {cc bytes : ByteArray} {maxL nL index n pc : Nat} {ret : Option FieldType} {own C : String} {b : Addr} {As rest st0 : List Value} {ls : Array Slot}
theorem MetX.ofW {ws' : List Cond} {Pc : Array Value → State → Prop} {Qc : Array Value → State → Outcome → State → Prop} {mc ms : Nat} {free : Addr → Prop}
    (hy : plainName y.cls = true) (hw : ws = Cond.code y cc maxL ret :: ws')
    (body : ∀ p e s m args below meth c s₁, BodyLoose p l y (headSpec ws rm) cc maxL ret e s m args below meth c s₁ → c.maxLocals = maxL → c.exceptionTable.toList = [] → Pc args s →
      W p l e (headSpec ws rm).room s m args below meth c s.heap [] 0 0 (MQX below Qc args s mc ms free) (entryFrame m args maxL)) : MetX l y ws rm Pc Qc mc ms free := by
  refine MetFree.of_bodyS (code := cc) (maxLocals := maxL) (ret := ret) hy ?_ ?_
  · intro args s m h hn
    obtain ⟨meth, c, h1, h2, h3, h4, h5, h6, -, -⟩ := Cond.code_spec hn (atoms_spec (ws := ws) h _ (by rw [hw]; exact List.mem_cons_self))
    exact ⟨meth, c, h1, h2, h3, h4, h5, h6⟩
  · intro p e s m args below meth c s₁ B hml hP _
    have hh0 : s₁.heap = s.heap := by rw [B.state]; rfl
    have hex : c.exceptionTable.toList = [] := by
      obtain ⟨meth', c', hm', hc', -, -, -, -, hempty, -⟩ := Cond.code_spec B.named (atoms_spec (ws := ws) B.pre _ (by rw [hw]; exact List.mem_cons_self))
      have X0 : Stand p l e _ s m args below meth c s₁ [] 0 0 := Stand.of_body B
      have e1 : meth' = meth := Option.some.inj (hm'.symm.trans X0.method)
      subst e1
      have e2 : c' = c := Option.some.inj (hc'.symm.trans X0.code)
      subst e2
      have h0 : c'.exceptionTable.size = 0 := by simpa [Array.isEmpty] using hempty
      exact List.eq_nil_of_length_eq_zero (by simpa using h0)
    obtain ⟨t, a1, o, b1, b2, b3⟩ := body p e s m args below meth c s₁ B hml hex hP s₁ hh0 (Stand.of_body B)
    exact ⟨t, o, a1, b1, b2, b3.1, b3.2⟩
theorem gx_ofW {post : Int32 → MI → ML → Prop} {thr : String → MI → ML → Prop} (hy : plainName y.cls = true) (hw : ws = Cond.code y cc maxL ret :: TB) (has : ∀ (σ : MI) (τ : ML), (wf σ τ).map Prod.fst = as) (hlen : (lg_sl av).length ≤ maxL)
    (body : ∀ (p : Program) (e : Env) (s : State) (m : MethodId) (below : List Frame) (meth : Method) (c : Code) (ls : Array Slot), p.tables.exec = Jvm.exec → c.code = cc → meth.sig.returnType = ret → meth.locks = false → c.maxLocals = maxL → s.vm.findClass y.cls = some m.cls → (∀ w ∈ TB, w.before av.toArray s = true) → va_K D classes ty s → va_P D classes (wf σ τ) s.heap → va_D (gA as s.heap.size) (wf σ τ) → va_S (gA as s.heap.size) s.heap s.heap [] → lv_has ls maxL (lv_args 0 av) →
      c.exceptionTable.toList = [] → XT s → (∀ (q : Nat) (ce : Cell), s.heap[q]? = some ce → ce.vm.isStatics = true → ¬ gA as s.heap.size q) →
      W p l e rm s m av.toArray below meth c s.heap [] 0 0 (gQx D wf ty as below av s post thr) (F0 m 0 ls [])) : gMx l D wf ty as y ws rm av sz σ τ post thr := by
  refine MetX.ofW (cc := cc) (maxL := maxL) (ret := ret) hy hw ?_
  intro p e s m args below meth c s₁ B hml hex hv
  obtain ⟨⟨rfl, hsz, hP, hK, hD0⟩, hXT⟩ := hv
  subst hsz
  have hts0 := atoms_spec (ws := ws) B.pre
  have hl := lv_entry av (n := maxL) hlen
  rw [lg_entry_eq]
  refine body p e s m below meth c _ B.exec B.bytes B.returns B.notSynchronized hml (findClass_of_methodNamed B.named) (fun w hw' => hts0 w (by rw [hw]; exact List.mem_cons_of_mem _ hw')) hK hP (gk_D hD0 (has σ τ)) va_S.rf hl hex hXT ?_
  intro q ce hq hst hA
  rcases hA with z | z
  · rw [← has σ τ] at z
    obtain ⟨x, hx, rfl⟩ := List.mem_map.mp z
    obtain ⟨k, hk⟩ := List.getElem?_of_mem hx
    have h1 := hP k x hk
    unfold va_at at h1
    cases hx2 : x.2 with
    | inl a =>
      rw [hx2] at h1
      have h1' : s.heap[x.1]? = some (vp_cell a.1 a.2) := h1
      rw [hq] at h1'
      have := Option.some.inj h1'
      rw [this] at hst
      revert hst
      unfold vp_cell
      split <;> (intro hst; cases hst)
    | inr o =>
      rw [hx2] at h1
      obtain ⟨r, -, cell, h2, -, h3, -⟩ := h1
      rw [hq] at h2
      cases h2
      rw [h3] at hst
      cases hst
  · have : q < s.heap.size := (Array.getElem?_eq_some_iff.mp hq).1
    omega
theorem gx_iret {post : Int32 → MI → ML → Prop} {thr : String → MI → ML → Prop} {v : Int32} (hx : p.tables.exec = Jvm.exec) (hb : c.code = cc) (hr : meth.sig.returnType = some .int) (hlocks : meth.locks = false) (hK : va_K D classes ty s) (hP : va_P D classes (wf σ τ) H) (hD : va_D (gA as s.heap.size) (wf σ τ)) (hS : va_S (gA as s.heap.size) s.heap H locs) (hv : post v σ τ) (hdg : decode cc pc = .ok (.ireturn, 1)) : W p l e R s m av.toArray below meth c H locs 0 0 (gQx D wf ty as below av s post thr) (F0 m pc ls [.int v]) := by
  refine W.widen (k := 1) (n := 6) (by decide) (by decide) (gx_mono (fun t => MQX_of) ?_)
  exact W.iret hx hb hr (fun t ht hW => ⟨Or.inl ⟨v, (σ, τ), rfl, hv, by rw [ht]; exact hP, va_K.moved hW.alike hK, hD⟩, hS.F ht⟩) hS.2.2 hdg hlocks
theorem gx_throw {post : Int32 → MI → ML → Prop} {thr : String → MI → ML → Prop} {X text : String} {inew istr ic : Nat} (hl : l.flags = flags0) (hx : p.tables.exec = Jvm.exec) (hb : c.code = cc) (hlocks : meth.locks = false) (hown : s.vm.findClass own = some m.cls) (hex : c.exceptionTable.toList = []) (hsize : ls.size = c.maxLocals) (hXT : XT s) (hst : ∀ (q : Nat) (ce : Cell), s.heap[q]? = some ce → ce.vm.isStatics = true → ¬ gA as s.heap.size q)
    (hoa : ∀ w ∈ Jvm.Bundle.ownAtoms own ic X nmX, w ∈ TX) (hcl : Cond.classLink own inew X ∈ TX) (hini : Cond.initialized X ∈ TX) (hstr : Cond.stringRef own istr text ∈ TX) (hfit : Jvm.Bundle.fit X = true)
    (hK : va_K D classes ty s) (hP : va_P D classes (wf σ τ) H) (hD : va_D (gA as s.heap.size) (wf σ τ)) (hS : va_S (gA as s.heap.size) s.heap H locs) (hR : 6 ≤ R.frames ∧ 82 ≤ R.locals ∧ 1 ≤ R.cells ∧ 6 ≤ R.slots)
    (d0 : decode cc pc = .ok (.new inew, 3)) (d3 : decode cc (pc + 3) = .ok (.dup, 1)) (d4 : decode cc (pc + 3 + 1) = .ok (.ldc istr, 2)) (d6 : decode cc (pc + 3 + 1 + 2) = .ok (.invokespecial ic, 3)) (d9 : decode cc (pc + 3 + 1 + 2 + 3) = .ok (.athrow, 1)) (hv : thr X σ τ) :
    W p l e R s m av.toArray below meth c H locs 0 0 (gQx D wf ty as below av s post thr) (F0 m pc ls []) := by
  refine gx_W (Nat.zero_le _) (Nat.zero_le _) (fun T hT X0 => ?_)
  have hstT : ∀ (q : Nat) (ce : Cell), s.heap[q]? = some ce → ce.vm.isStatics = true → (reb s T).heap[q]? = some ce := fun q ce h1 h2 => by
    show T.heap[q]? = some ce
    rw [hT, hS.2.1 q (Array.getElem?_eq_some_iff.mp h1).1 (hst q ce h1 h2)]; exact h1
  have hT' : ∀ w ∈ TX, w.before av.toArray (reb s T) = true := fun w hw => tx_move (TX_ok w hw) (hXT w hw) (State.WarmedH.refl s) hstT
  have hins : Cond.instantiable X 6 ∈ TX := hoa _ (by simp [Jvm.Bundle.ownAtoms])
  refine W.newc (s := reb s T) (R := rebR R 0 0) (g := F0 m pc ls []) (own := own) (C := X) (n := 6) hx hb hown (hT' _ hcl) (hT' _ hins) (hT' _ hini) rfl d0 (by show 0 + 1 ≤ R.cells - 0; omega) (by show 0 + 6 ≤ R.slots - 0; omega) (fun cC kC h1 h2 h3 h4 => ?_)
  refine lv_dup hx hb d3 rfl ?_
  obtain ⟨k, cf, i, aS, -, -, -, -, -, hev⟩ := Cond.stringRef_spec (s := reb s T) hown (hT' _ hstr)
  refine gx_ldc (s := reb s T) (own := own) hx hb hown (hT' _ hstr) hev d4 ?_
  intro T2 hT2 X2
  obtain ⟨U, st, hrun, hend, hW, hsame, ce, hce, hoc⟩ := X2.ctorThrowS hx (Launch.traces_off hl X2.admits) (own := own) (cls := X) (names := nmX) (ic := ic) hown hfit (by decide +kernel) (fun w hw => hT' w (hoa w hw)) (fun x hx => absurd hx List.not_mem_nil) (a := H.size) h1 h2 (by rw [hT2]; simp) (by show T.heap.size ≤ H.size; rw [hT]; exact Nat.le_refl _) (msg := .ref aS) rfl (g := F0 m (pc + 3 + 1 + 2) ls [.ref aS, .ref H.size, .ref H.size]) rfl hsize rfl rfl (rest := []) rfl (by rw [hb]; exact d6) (by rw [hb]; exact d9) (fun x hx => by rw [hex] at hx; cases hx) (by show 5 < R.frames; omega) (by show _ + (13 * 3 + 42) ≤ R.locals; simp [JFrame.monitorRoom, Value.category]; omega)
  have hold : ∀ (q : Nat) (x : Cell), H[q]? = some x → U.heap[q]? = some x := fun q x hq => hsame.old_cell (show (reb s T).heap[q]? = some x by show T.heap[q]? = some x; rw [hT]; exact hq)
  have holdq : ∀ q : Nat, q < H.size → U.heap[q]? = H[q]? := fun q hq => by
    rw [hold q H[q] (Array.getElem?_eq_getElem hq), Array.getElem?_eq_getElem hq]
  have hs2 := gx_same X0 hsame
  refine ⟨U, st, .threw H.size, hrun, hend, ⟨Or.inr ⟨H.size, X, (σ, τ), rfl, hv, ⟨ce, hce, hoc.vm, hoc.cls⟩, ?_, va_K.moved (show s.vm.Alike U.vm from State.WarmedH.alike (s := reb s T) hW) hK, hD⟩, ?_⟩, locs ++ [], hW, hs2, fun q hq => ?_⟩
  · exact hP.kept (fun k q hq => holdq q.1 ((hP k q hq).lt))
  · refine ⟨hs2.2.1, fun q h1 h2 => ?_⟩
    rw [holdq q (Nat.lt_of_lt_of_le h1 hS.1)]
    exact hS.2.1 q h1 h2
  · rw [List.append_nil] at hq
    exact hS.2.2 q hq
end GX2

