/-! the law's own methods, which catch -/
def gMw (l : Launch) (D : va_G) (wf : MI → ML → va_W) (ty : List (ClassId × FieldType)) (as : List Nat) (y : MethodName) (ws : List Cond) (rm : Room) (av : List Value) (sz : Nat) (σ : MI) (τ : ML) (post : Int32 → MI → ML → Prop) : Prop :=
  MetX l y ws rm (gPx D wf ty av sz σ τ) (va_Qi (fun r (u : MI × ML) => post r u.1 u.2) (gB D wf ty as sz) (gA as sz)) 1 6 (gA as sz)
def gQw (D : va_G) (wf : MI → ML → va_W) (ty : List (ClassId × FieldType)) (as : List Nat) (below : List Frame) (av : List Value) (s : State) (post : Int32 → MI → ML → Prop) : State → Prop :=
  MQX below (va_Qi (fun r (u : MI × ML) => post r u.1 u.2) (gB D wf ty as s.heap.size) (gA as s.heap.size)) av.toArray s 1 6 (gA as s.heap.size)
theorem XT.here {s : State} {a : Array Value} (h : XT s) {w : Cond} (hw : w ∈ TX) : w.before a s = true := tx_move (TX_ok w hw) (h w hw) (State.WarmedH.refl s) (fun _ _ h1 _ => h1)
section GW
variable {p : Program} {l : Launch} {e : Env} {R : Room} {s : State} {m : MethodId} {args : Array Value} {below : List Frame} {meth : Method} {c : Code} {H : Heap} {locs : List Loc} {cells slots : Nat} {Q : State → Prop}
variable {D : va_G} {wf : MI → ML → va_W} {ty : List (ClassId × FieldType)} {as : List Nat} {y : MethodName} {ws : List Cond} {rm : Room} {av : List Value} {sz : Nat} {σ : MI} {τ : ML}
variable {cc bytes : ByteArray} {maxL nL index n pc : Nat} {ret : Option FieldType} {own C : String} {b : Addr} {As rest st0 : List Value} {ls : Array Slot}
theorem gx_hst (has : ∀ (σ : MI) (τ : ML), (wf σ τ).map Prod.fst = as) (hP : va_P D classes (wf σ τ) s.heap) : ∀ (q : Nat) (ce : Cell), s.heap[q]? = some ce → ce.vm.isStatics = true → ¬ gA as s.heap.size q := by
  intro q ce hq hst hA
  rcases hA with z | z
  · rw [← has σ τ] at z
    obtain ⟨x, hx, rfl⟩ := List.mem_map.mp z
    obtain ⟨k, hk⟩ := List.getElem?_of_mem hx
    have h1 := hP k x hk
    unfold va_at at h1
    cases hx2 : x.2 with
    | inl a =>
      rw [hx2] at h1
      have h1' : s.heap[x.1]? = some (vp_cell a.1 a.2) := h1
      rw [hq] at h1'
      have := Option.some.inj h1'
      rw [this] at hst
      revert hst
      unfold vp_cell
      split <;> (intro hst; cases hst)
    | inr o =>
      rw [hx2] at h1
      obtain ⟨r, -, cell, h2, -, h3, -⟩ := h1
      rw [hq] at h2
      cases h2
      rw [h3] at hst
      cases hst
  · have : q < s.heap.size := (Array.getElem?_eq_some_iff.mp hq).1
    omega
theorem gw_ofW {post : Int32 → MI → ML → Prop} {hd : List (Nat × Nat × Nat × Nat)} {TT : List Cond} (hy : plainName y.cls = true) (hw : ws = Cond.codeWith y cc maxL ret hd :: TT) (has : ∀ (σ : MI) (τ : ML), (wf σ τ).map Prod.fst = as) (hlen : (lg_sl av).length ≤ maxL)
    (body : ∀ (p : Program) (e : Env) (s : State) (m : MethodId) (below : List Frame) (meth : Method) (c : Code) (ls : Array Slot), p.tables.exec = Jvm.exec → c.code = cc → meth.sig.returnType = ret → meth.locks = false → c.maxLocals = maxL → s.vm.findClass y.cls = some m.cls → (∀ w ∈ TT, w.before av.toArray s = true) → va_K D classes ty s → va_P D classes (wf σ τ) s.heap → va_D (gA as s.heap.size) (wf σ τ) → va_S (gA as s.heap.size) s.heap s.heap [] → lv_has ls maxL (lv_args 0 av) →
      c.exceptionTable.toList = tableOf hd → XT s → (∀ (q : Nat) (ce : Cell), s.heap[q]? = some ce → ce.vm.isStatics = true → ¬ gA as s.heap.size q) →
      W p l e rm s m av.toArray below meth c s.heap [] 0 0 (gQw D wf ty as below av s post) (F0 m 0 ls [])) : gMw l D wf ty as y ws rm av sz σ τ post := by
  unfold gMw MetX
  refine MetFree.of_bodyS (code := cc) (maxLocals := maxL) (ret := ret) hy ?_ ?_
  · intro args s m h hn
    obtain ⟨m', meth, c, h0, h1, h2, h3, h4, -, h5, h6, -⟩ := Cond.codeWith_spec (atoms_spec (ws := ws) h _ (by rw [hw]; exact List.mem_cons_self))
    cases hn.symm.trans h0
    exact ⟨meth, c, h1, h2, h3, h4, h5, h6⟩
  · intro p e s m args below meth c s₁ B hml hv _
    obtain ⟨⟨rfl, hsz, hP, hK, hD0⟩, hXT⟩ := hv
    subst hsz
    have hts0 := atoms_spec (ws := ws) B.pre
    have X0 : Stand p l e _ s m av.toArray below meth c s₁ [] 0 0 := Stand.of_body B
    have htab : c.exceptionTable.toList = tableOf hd := by
      obtain ⟨m', meth', c', h0, h1, h2, h3, h4, ht, -⟩ := Cond.codeWith_spec (hts0 _ (by rw [hw]; exact List.mem_cons_self))
      cases B.named.symm.trans h0
      have e1 : meth' = meth := Option.some.inj (h1.symm.trans X0.method)
      subst e1
      have e2 : c' = c := Option.some.inj (h2.symm.trans X0.code)
      subst e2
      rw [← ht, table_eq]
    have hl := lv_entry av (n := maxL) hlen
    have hh0 : s₁.heap = s.heap := by rw [B.state]; rfl
    have w := body p e s m below meth c _ B.exec B.bytes B.returns B.notSynchronized hml (findClass_of_methodNamed B.named) (fun w hw' => hts0 w (by rw [hw]; exact List.mem_cons_of_mem _ hw')) hK hP (gk_D hD0 (has σ τ)) va_S.rf hl htab hXT (gx_hst has hP)
    rw [← lg_entry_eq] at w
    obtain ⟨t, a1, o, b1, b2, b3⟩ := w s₁ hh0 X0
    exact ⟨t, o, a1, b1, b2, b3.1, b3.2⟩
theorem gw_iret {post : Int32 → MI → ML → Prop} {v : Int32} (hx : p.tables.exec = Jvm.exec) (hb : c.code = cc) (hr : meth.sig.returnType = some .int) (hlocks : meth.locks = false) (hK : va_K D classes ty s) (hP : va_P D classes (wf σ τ) H) (hD : va_D (gA as s.heap.size) (wf σ τ)) (hS : va_S (gA as s.heap.size) s.heap H locs) (hv : post v σ τ) (hdg : decode cc pc = .ok (.ireturn, 1)) : W p l e R s m av.toArray below meth c H locs 1 6 (gQw D wf ty as below av s post) (F0 m pc ls [.int v]) :=
  gx_mono (fun t => MQX_of) (W.iret hx hb hr (fun t ht hW => ⟨⟨v, (σ, τ), rfl, hv, by rw [ht]; exact hP, va_K.moved hW.alike hK, hD⟩, hS.F ht⟩) hS.2.2 hdg hlocks)
end GW
theorem tx_nc (i : Nat) {w : Cond} (h : TXs[i]? = some w) : w ∈ TX := List.mem_append_right _ (List.mem_of_getElem? h)
theorem tx_cIA : Cond.castable xIA xIA ∈ TX := tx_IA _ (by simp [Jvm.Bundle.ownAtoms])
theorem tx_cIS : Cond.castable xIS xIS ∈ TX := tx_IS _ (by simp [Jvm.Bundle.ownAtoms])
theorem tx_cIO : Cond.castable xIO xIO ∈ TX := tx_IO _ (by simp [Jvm.Bundle.ownAtoms])
theorem tx_cAR : Cond.castable xAR xAR ∈ TX := tx_AR _ (by simp [Jvm.Bundle.ownAtoms])

