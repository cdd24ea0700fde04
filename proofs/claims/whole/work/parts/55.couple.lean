/-! both sides together -/
def prs : List (Nat × Nat) := [(2, 30), (3, 31), (4, 32), (5, 33), (6, 34), (7, 35), (9, 37), (10, 38), (11, 39), (12, 40), (13, 41), (16, 36), (18, 42)]
def CPd (σ : MI) : Prop := σ 1 0 = σ 29 1 ∧ σ 8 0 = σ 29 10 ∧ σ 15 0 = σ 29 8 ∧ σ 17 0 = σ 29 17 ∧ σ 22 0 = σ 29 18 ∧ ∀ q ∈ prs, σ q.1 = σ q.2
def CPL (σ : MI) : Prop := Vd (vx σ) ∧ CPd σ ∧ (σ 22 0 ≠ 0 → PLX σ ∧ PLM σ)
theorem cp_vm {σ : MI} (h : CPd σ) : vm σ = vx σ := by
  obtain ⟨h1, h8, h15, h17, -, hq⟩ := h
  have e := fun (a b : Nat) (hm : (a, b) ∈ prs) => hq (a, b) hm
  funext c i
  unfold vm vx
  split
  · rw [h1]
  · rw [e 2 30 (by decide)]
  · rw [e 3 31 (by decide)]
  · rw [e 4 32 (by decide)]
  · rw [e 5 33 (by decide)]
  · rw [e 6 34 (by decide)]
  · rw [h8]
  · rw [e 9 37 (by decide)]
  · rw [e 10 38 (by decide)]
  · rw [e 11 39 (by decide)]
  · rw [e 12 40 (by decide)]
  · rw [e 13 41 (by decide)]
  · rw [h15]
  · rw [e 16 36 (by decide)]
  · rw [h17]
  · rw [e 18 42 (by decide)]
  · rfl
/-- what is made of the same doers -/
theorem wat_congr {d : Dt} {o a a' : Nat → Nat} {p n : Nat} (h : ∀ k, k < n → a (o k) = a' (o k)) : ∀ k, k ≤ n → wat d o a p k = wat d o a' p k := by
  intro k
  induction k with
  | zero => intro _; rfl
  | succ k ih =>
    intro hk
    show (if a (o k) = p then _ else wat d o a p k) = (if a' (o k) = p then _ else wat d o a' p k)
    rw [h k (by omega), ih (by omega)]
theorem ttn_congr {d : Dt} {o a a' : Nat → Nat} {p n : Nat} (h : ∀ k, k < n → a (o k) = a' (o k)) {k : Nat} (hk : k ≤ n) : ttn d o a p k = ttn d o a' p k := by
  unfold ttn; rw [wat_congr h k hk]
theorem trs_congr {d : Dt} {o a a' : Nat → Nat} {p n : Nat} (h : ∀ k, k < n → a (o k) = a' (o k)) : ∀ k, k ≤ n → trs d o a p k = trs d o a' p k := by
  intro k
  induction k with
  | zero => intro _; rfl
  | succ k ih =>
    intro hk
    show trs d o a p k + (if a (o k) = p then ttn d o a p k else 0) = trs d o a' p k + (if a' (o k) = p then ttn d o a' p k else 0)
    rw [h k (by omega), ih (by omega), ttn_congr h (by omega)]
theorem cnp_congr {o a a' : Nat → Nat} {p n : Nat} (h : ∀ k, k < n → a (o k) = a' (o k)) : ∀ k, k ≤ n → cnp o a p k = cnp o a' p k := by
  intro k
  induction k with
  | zero => intro _; rfl
  | succ k ih =>
    intro hk
    show cnp o a p k + (if a (o k) = p then 1 else 0) = cnp o a' p k + (if a' (o k) = p then 1 else 0)
    rw [h k (by omega), ih (by omega)]
theorem wtn_congr {d : Dt} {o a a' : Nat → Nat} {p n : Nat} (h : ∀ k, k < n → a (o k) = a' (o k)) : ∀ k, k ≤ n → wtn d o a p k = wtn d o a' p k := by
  intro k
  induction k with
  | zero => intro _; rfl
  | succ k ih =>
    intro hk
    show (if a (o k) = p then ((wtn d o a p k).1 + (d 11 (o k) - (wtn d o a p k).2 - ttn d o a p k), d 12 (o k)) else wtn d o a p k) = (if a' (o k) = p then ((wtn d o a' p k).1 + (d 11 (o k) - (wtn d o a' p k).2 - ttn d o a' p k), d 12 (o k)) else wtn d o a' p k)
    rw [h k (by omega), ih (by omega), ttn_congr h (by omega)]
theorem DayA_congr {o a a' : Nat → Nat} {n p : Nat} {i r : Int32} (h : ∀ k, k < n → a (o k) = a' (o k)) (hD : DayA o a n p i r) : DayA o a' n p i r := by
  rcases hD with ⟨l, h1, h2, h3, h4⟩ | ⟨h1, h2⟩
  · exact Or.inl ⟨l, h1, by rw [← h l h1]; exact h2, by rw [← cnp_congr h l (by omega)]; exact h3, h4⟩
  · exact Or.inr ⟨fun l hl he => by rw [← cnp_congr h l (by omega)]; exact h1 l hl (by rw [h l hl]; exact he), h2⟩
theorem smP_swap (o a : Nat → Nat) (P : Nat) : ∀ n, smP (fun p => cnp o a p n) P = dp_sum (fun k => if a (o k) < P then 1 else 0) n := by
  intro n
  induction n with
  | zero =>
    show smP (fun _ => 0) P = 0
    induction P with
    | zero => rfl
    | succ P ih => show smP (fun _ => 0) P + 0 = 0; rw [ih]
  | succ n ih =>
    have h1 : ∀ Q, smP (fun p => cnp o a p (n + 1)) Q = smP (fun p => cnp o a p n) Q + (if a (o n) < Q then 1 else 0) := by
      intro Q
      induction Q with
      | zero => rfl
      | succ Q ihQ =>
        show smP (fun p => cnp o a p (n + 1)) Q + (cnp o a Q n + (if a (o n) = Q then 1 else 0)) = smP (fun p => cnp o a p n) Q + cnp o a Q n + (if a (o n) < Q + 1 then 1 else 0)
        rw [ihQ]
        by_cases z : a (o n) < Q
        · rw [if_pos z, if_neg (by omega), if_pos (by omega)]; omega
        · by_cases y : a (o n) = Q
          · rw [if_neg z, if_pos y, if_pos (by omega)]; omega
          · rw [if_neg z, if_neg y, if_neg (by omega)]; omega
    rw [h1, ih]
    rfl
theorem dp_sum_cnt (f : Nat → Bool) (n : Nat) : dp_sum (fun j => if f j = true then 1 else 0) n = cnt f n := by
  induction n with
  | zero => rfl
  | succ n ih => show dp_sum _ n + _ = cnt f n + _; rw [ih]
theorem smP_cnt {d : Dt} {n : Nat} {o : Nat → Nat} (h : IsOrd d n o) (a : Nat → Nat) (P : Nat) : smP (fun p => cnp o a p n) P = cnt (fun j => decide (a j < P)) n := by
  rw [smP_swap, dp_sum_perm h (fun j => if a j < P then 1 else 0), ← dp_sum_cnt]
  exact dp_sum_congr (fun j _ => by simp)
theorem Why_uniq {d : Dt} {B j x : Nat} {r r' : Int32} (h : Why d B j x r) (h' : Why d B j x r') : r = r' := by
  rcases h with ⟨h1, rfl⟩ | ⟨h1, h2⟩ <;> rcases h' with ⟨g1, rfl⟩ | ⟨g1, g2⟩
  · rfl
  · exact absurd g1 h1
  · exact absurd h1 g1
  · rcases h2 with ⟨⟨q, q1, q2, q3, q4⟩, rfl⟩ | ⟨a1, a2⟩ <;> rcases g2 with ⟨⟨p, p1, p2, p3, p4⟩, rfl⟩ | ⟨b1, b2⟩
    · rfl
    · exact absurd (b1 q q1 q2 q3) q4
    · exact absurd (a1 p p1 p2 p3) p4
    · rcases a2 with ⟨⟨q, q1, q2, q3⟩, rfl⟩ | ⟨c1, rfl⟩ <;> rcases b2 with ⟨⟨p, p1, p2, p3⟩, rfl⟩ | ⟨e1, rfl⟩
      · rfl
      · exact absurd q3 (e1 q q1 q2)
      · exact absurd p3 (c1 p p1 p2)
      · rfl
theorem OfA_uniq {d : Dt} {a a' t t' : Nat → Nat} {j : Nat} {w r r' : Int32} (hj : j < nJ d) (ha : ∀ i, i < nJ d → a i = a' i) (ht : t j = t' j) (hw : 0 ≤ w.toInt ∧ w.toInt ≤ 4) (h : OfA d a t j w r) (h' : OfA d a' t' j w r') : r = r' := by
  obtain ⟨a0, a1, a2, a3, a4⟩ := h
  obtain ⟨b0, b1, b2, b3, b4⟩ := h'
  have ho := od_ok d (nJ d)
  have hao : ∀ k, k < nJ d → a (od d (nJ d) k) = a' (od d (nJ d) k) := fun k hk => ha _ (ho.1 k hk)
  have hc : w = 0 ∨ w = 1 ∨ w = 2 ∨ w = 3 ∨ w = 4 := by
    rw [z_eq, z_eq, z_eq, z_eq, z_eq, zc_0, zc_1, zc_2, zc_3, zc_4]; omega
  rcases hc with z | z | z | z | z
  · rw [a0 z, b0 z, ha j hj]
  · obtain ⟨l, hl, e1, e2⟩ := a1 z
    obtain ⟨m, hm, f1, f2⟩ := b1 z
    have : l = m := ord_inj ho hl hm (e1.trans f1.symm)
    subst this
    rw [e2, f2, ha j hj, ttn_congr hao (by omega)]
  · rw [a2 z, b2 z, ht]
  · rw [a3 z, b3 z, ha j hj, ht]
  · have h1 := a4 z
    rw [ha j hj] at h1
    exact Why_uniq h1 (b4 z)
theorem cnf_uniq {np nt nj made given barred given' barred' : Int32} {fl : Nat → Int32} {a r r' : Int32} (hg : made ≠ 0 → given = given' ∧ barred = barred') (h : cnf np nt nj made given barred fl a r) (h' : cnf np nt nj made given' barred' fl a r') : r = r' := by
  obtain ⟨a0, a1, a2, a3, a4, a5, a10, ae⟩ := h
  obtain ⟨b0, b1, b2, b3, b4, b5, b10, be⟩ := h'
  by_cases z0 : a = 0
  · rw [a0 z0, b0 z0]
  by_cases z1 : a = 1
  · rw [a1 z1, b1 z1]
  by_cases z2 : a = 2
  · rw [a2 z2, b2 z2]
  by_cases z3 : a = 3
  · by_cases m : made = 0
    · rw [(a3 z3).1 m, (b3 z3).1 m]
    · rw [(a3 z3).2 m, (b3 z3).2 m]
  by_cases z4 : a = 4
  · by_cases m : made = 0
    · rw [(a4 z4).1 m, (b4 z4).1 m]
    · rw [(a4 z4).2 m, (b4 z4).2 m, (hg m).1]
  by_cases z5 : a = 5
  · by_cases m : made = 0
    · rw [(a5 z5).1 m, (b5 z5).1 m]
    · rw [(a5 z5).2 m, (b5 z5).2 m, (hg m).2]
  by_cases z : 10 ≤ a.toInt
  · by_cases y : a.toInt - 10 < np.toInt
    · rw [(a10 z).1 y, (b10 z).1 y]
    · rw [(a10 z).2 y, (b10 z).2 y]
  · rw [ae (by omega) z0 z1 z2 z3 z4 z5, be (by omega) z0 z1 z2 z3 z4 z5]
/-- two plans over the same data -/
theorem cp_plan {σ : MI} (hd : Vd (vx σ)) (he : vm σ = vx σ) (hx : PLX σ) (hm : PLM σ) :
    (∀ j, j < nJ (vx σ) → adx σ j = agm σ j) ∧ (∀ j, j < nJ (vx σ) → tgx σ j = tgm σ j) ∧ σ 22 1 = σ 29 21 ∧ σ 22 2 = nI (gvn σ) ∧ σ 22 3 = nI (tvm σ (nP (vm σ))) := by
  have ho := od_ok (vx σ) (nJ (vx σ))
  have hm3 := hm.2.2.1
  rw [he] at hm3
  have ha := OPT_uniq hd hx.2.2.2.1 hm3
  have hao : ∀ k, k < nJ (vx σ) → adx σ (od (vx σ) (nJ (vx σ)) k) = agm σ (od (vx σ) (nJ (vx σ)) k) := fun k hk => ha _ (ho.1 k hk)
  refine ⟨ha, fun j hj => ?_, ?_, ?_, ?_⟩
  · have h1 := (PLX_tgx hd hx).1
    have h2 := hm.2.2.2.2
    rw [he] at h2
    exact tgs_uniq _ _ _ (tgs_congr (nJ (vx σ)) hao _ _ (Nat.le_refl _) h1) h2 j hj
  · rw [hx.2.2.1, hm.2.1, he]
  · rw [hx.2.2.2.2.1]
    congr 1
    rw [smP_cnt ho]
    unfold gvn
    rw [he]
    refine cnt_congr (fun j hj => ?_)
    have hd' : Vd (vm σ) := by rw [he]; exact hd
    have hl := agm_lt hd' (j := j)
    rw [he] at hl
    rw [ha j hj, decide_eq_decide]
    exact hl
  · rw [hx.2.2.2.2.2.1]
    congr 1
    unfold tvm
    rw [he]
    exact smP_congr (fun p hp => trs_congr hao _ (Nat.le_refl _))
theorem PLX_congr {σ σ' : MI} (h : ∀ c, c < 28 → σ' c = σ c) (hp : PLX σ) : PLX σ' := by
  have e : vx σ' = vx σ := vx_congr (by rw [h 1 (by decide)]) (by rw [h 8 (by decide)]) (by rw [h 15 (by decide)]) (by rw [h 17 (by decide)]) (fun c hc => h c (by simp only [List.mem_cons, List.not_mem_nil, or_false] at hc; omega))
  have ea : adx σ' = adx σ := by unfold adx; rw [h 23 (by decide)]
  obtain ⟨p1, p2, p3, p4, p5, p6, p7, t, p8, p9, p10⟩ := hp
  refine ⟨?_, ?_, ?_, ?_, ?_, ?_, ?_, t, ?_, ?_, ?_⟩
  · unfold Orx; rw [e, h 14 (by decide)]; exact p1
  · unfold ADX; rw [e, ea, h 23 (by decide)]; exact p2
  · rw [h 22 (by decide), e]; exact p3
  · rw [e, ea]; exact p4
  · rw [h 22 (by decide), e, ea]; exact p5
  · rw [h 22 (by decide), e, ea]; exact p6
  · rw [h 24 (by decide), e, ea]; exact p7
  · rw [e, ea]; exact p8
  · rw [h 25 (by decide), e]; exact p9
  · rw [h 26 (by decide), e, ea]; exact p10
theorem CPL_290 {σ : MI} {v : Int32} (h : CPL σ) : CPL (st2 σ 29 0 v) := by
  obtain ⟨hd, hc, hp⟩ := h
  have e : vx (st2 σ 29 0 v) = vx σ := vx_congr (by rw [st2_ne (by decide)]) (by rw [st2_ne (by decide)]) (by rw [st2_ne (by decide)]) (by rw [st2_ne (by decide)]) (fun c hc => st2_ne (by intro z; subst z; revert hc; decide))
  have e22 : (st2 σ 29 0 v) 22 0 = σ 22 0 := by rw [st2_ne (by decide)]
  refine ⟨by rw [e]; exact hd, ?_, fun hm => ?_⟩
  · obtain ⟨h1, h8, h15, h17, h22, hq⟩ := hc
    refine ⟨?_, ?_, ?_, ?_, ?_, fun q hq' => ?_⟩
    · rw [st2_ne (by decide), st2_at, if_neg (by decide)]; exact h1
    · rw [st2_ne (by decide), st2_at, if_neg (by decide)]; exact h8
    · rw [st2_ne (by decide), st2_at, if_neg (by decide)]; exact h15
    · rw [st2_ne (by decide), st2_at, if_neg (by decide)]; exact h17
    · rw [st2_ne (by decide), st2_at, if_neg (by decide)]; exact h22
    · have hne : q.1 ≠ 29 ∧ q.2 ≠ 29 := by
        have : ∀ q ∈ prs, q.1 ≠ 29 ∧ q.2 ≠ 29 := by decide
        exact this q hq'
      rw [st2_ne hne.1, st2_ne hne.2]; exact hq q hq'
  · rw [e22] at hm
    exact ⟨PLX_congr (fun c hc => st2_ne (by omega)) (hp hm).1, PLM_290 (hp hm).2⟩
theorem nIA_IS : ¬ nIA = nIS := by decide
theorem nIS_IA : ¬ nIS = nIA := by decide
theorem nIO_IS : ¬ nIO = nIS := by decide
theorem nIS_IO : ¬ nIS = nIO := by decide
theorem nIA_AR : ¬ nIA = nAR := by decide
theorem nAR_IA : ¬ nAR = nIA := by decide
theorem nIO_IA : ¬ nIO = nIA := by decide
theorem nIA_IO : ¬ nIA = nIO := by decide
/-- data that grow -/
theorem Vd_person {d d' : Dt} (hd : Vd d) {a1 a2 a3 a4 : Int32} (hp : pok a1 a2 a3 a4) (hn : nP d < 4) (h1 : d' 1 0 = d 1 0 + 1) (h2 : ∀ i, d' 2 i = if i = nP d then a1.toInt else d 2 i) (h3 : ∀ i, d' 3 i = if i = nP d then a2.toInt else d 3 i) (h4 : ∀ i, d' 4 i = if i = nP d then a3.toInt else d 4 i) (h5 : ∀ i, d' 5 i = if i = nP d then a4.toInt else d 5 i) (hc : ∀ c, c ∉ [1, 2, 3, 4, 5] → d' c = d c) : Vd d' := by
  have hnp := hd.nPl
  obtain ⟨p1, p2, p3⟩ := hp
  have eJ : nJ d' = nJ d := by unfold nJ; rw [hc 8 (by decide)]
  refine ⟨by rw [h1]; omega, by rw [hc 8 (by decide)]; exact hd.2.1, by rw [hc 15 (by decide)]; exact hd.2.2.1, by rw [hc 17 (by decide)]; exact hd.rest, fun p hp4 => ?_, fun j hj => ?_, fun t ht => by rw [hc 16 (by decide)]; exact hd.tug ht, fun k hk => by rw [hc 18 (by decide)]; exact hd.way hk, fun j hj => ?_⟩
  · have hx := hd.ppl hp4
    rw [h2, h3, h4, h5, hc 6 (by decide)]
    by_cases z : p = nP d
    · rw [if_pos z, if_pos z, if_pos z, if_pos z]
      exact ⟨by omega, by omega, by omega, by omega, hx.2.2.2.2⟩
    · rw [if_neg z, if_neg z, if_neg z, if_neg z]
      exact hx
  · rw [hc 9 (by decide), hc 10 (by decide), hc 11 (by decide), hc 12 (by decide), hc 13 (by decide)]; exact hd.job hj
  · rw [eJ] at hj
    rw [hc 11 (by decide), hc 12 (by decide)]; exact hd.span hj
theorem Vd_tug {d d' : Dt} (hd : Vd d) {a1 : Int32} (hp : tok a1) (hn : nT d < 6) (h1 : d' 15 0 = d 15 0 + 1) (h2 : ∀ i, d' 16 i = if i = nT d then a1.toInt else d 16 i) (hc : ∀ c, c ∉ [15, 16] → d' c = d c) : Vd d' := by
  have hnt := hd.nTl
  unfold tok at hp
  have eJ : nJ d' = nJ d := by unfold nJ; rw [hc 8 (by decide)]
  refine ⟨by rw [hc 1 (by decide)]; exact hd.1, by rw [hc 8 (by decide)]; exact hd.2.1, by rw [h1]; omega, by rw [hc 17 (by decide)]; exact hd.rest, fun p hp4 => ?_, fun j hj => ?_, fun t ht => ?_, fun k hk => by rw [hc 18 (by decide)]; exact hd.way hk, fun j hj => ?_⟩
  · rw [hc 2 (by decide), hc 3 (by decide), hc 4 (by decide), hc 5 (by decide), hc 6 (by decide)]; exact hd.ppl hp4
  · rw [hc 9 (by decide), hc 10 (by decide), hc 11 (by decide), hc 12 (by decide), hc 13 (by decide)]; exact hd.job hj
  · have hx := hd.tug ht
    rw [h2]
    split
    · omega
    · exact hx
  · rw [eJ] at hj
    rw [hc 11 (by decide), hc 12 (by decide)]; exact hd.span hj
theorem Vd_job {d d' : Dt} (hd : Vd d) {a1 a2 a3 a4 a5 : Int32} (hp : jok a1 a2 a3 a4 a5) (hn : nJ d < 7) (h1 : d' 8 0 = d 8 0 + 1) (h9 : ∀ i, d' 9 i = if i = nJ d then a1.toInt else d 9 i) (h10 : ∀ i, d' 10 i = if i = nJ d then a2.toInt else d 10 i) (h11 : ∀ i, d' 11 i = if i = nJ d then a3.toInt else d 11 i) (h12 : ∀ i, d' 12 i = if i = nJ d then a4.toInt else d 12 i) (h13 : ∀ i, d' 13 i = if i = nJ d then a5.toInt else d 13 i) (hc : ∀ c, c ∉ [8, 9, 10, 11, 12, 13] → d' c = d c) : Vd d' := by
  have hnj := hd.nJl
  obtain ⟨p1, p2, p3, p4, p5⟩ := hp
  have eJ : nJ d' = nJ d + 1 := by unfold nJ; rw [h1]; unfold nJ at hnj; omega
  refine ⟨by rw [hc 1 (by decide)]; exact hd.1, by rw [h1]; omega, by rw [hc 15 (by decide)]; exact hd.2.2.1, by rw [hc 17 (by decide)]; exact hd.rest, fun p hp4 => ?_, fun j hj => ?_, fun t ht => by rw [hc 16 (by decide)]; exact hd.tug ht, fun k hk => by rw [hc 18 (by decide)]; exact hd.way hk, fun j hj => ?_⟩
  · rw [hc 2 (by decide), hc 3 (by decide), hc 4 (by decide), hc 5 (by decide), hc 6 (by decide)]; exact hd.ppl hp4
  · have hx := hd.job hj
    rw [h9, h10, h11, h12, h13]
    by_cases z : j = nJ d
    · rw [if_pos z, if_pos z, if_pos z, if_pos z, if_pos z]
      exact ⟨by omega, by omega, by omega, by omega, by omega⟩
    · rw [if_neg z, if_neg z, if_neg z, if_neg z, if_neg z]
      exact hx
  · rw [eJ] at hj
    rw [h11, h12]
    by_cases z : j = nJ d
    · rw [if_pos z, if_pos z]; omega
    · rw [if_neg z, if_neg z]; exact hd.span (by omega)
theorem Vd_way {d d' : Dt} (hd : Vd d) (hw : ∀ k, k < 25 → 0 ≤ d' 18 k ∧ d' 18 k ≤ 300) (hc : ∀ c, c ≠ 18 → d' c = d c) : Vd d' := by
  have eJ : nJ d' = nJ d := by unfold nJ; rw [hc 8 (by decide)]
  refine ⟨by rw [hc 1 (by decide)]; exact hd.1, by rw [hc 8 (by decide)]; exact hd.2.1, by rw [hc 15 (by decide)]; exact hd.2.2.1, by rw [hc 17 (by decide)]; exact hd.rest, fun p hp4 => ?_, fun j hj => ?_, fun t ht => by rw [hc 16 (by decide)]; exact hd.tug ht, hw, fun j hj => ?_⟩
  · rw [hc 2 (by decide), hc 3 (by decide), hc 4 (by decide), hc 5 (by decide), hc 6 (by decide)]; exact hd.ppl hp4
  · rw [hc 9 (by decide), hc 10 (by decide), hc 11 (by decide), hc 12 (by decide), hc 13 (by decide)]; exact hd.job hj
  · rw [eJ] at hj
    rw [hc 11 (by decide), hc 12 (by decide)]; exact hd.span hj
theorem Vd_rest {d d' : Dt} (hd : Vd d) (hw : 0 ≤ d' 17 0 ∧ d' 17 0 ≤ 300) (hc : ∀ c, c ≠ 17 → d' c = d c) : Vd d' := by
  have eJ : nJ d' = nJ d := by unfold nJ; rw [hc 8 (by decide)]
  refine ⟨by rw [hc 1 (by decide)]; exact hd.1, by rw [hc 8 (by decide)]; exact hd.2.1, by rw [hc 15 (by decide)]; exact hd.2.2.1, hw, fun p hp4 => ?_, fun j hj => ?_, fun t ht => by rw [hc 16 (by decide)]; exact hd.tug ht, fun k hk => by rw [hc 18 (by decide)]; exact hd.way hk, fun j hj => ?_⟩
  · rw [hc 2 (by decide), hc 3 (by decide), hc 4 (by decide), hc 5 (by decide), hc 6 (by decide)]; exact hd.ppl hp4
  · rw [hc 9 (by decide), hc 10 (by decide), hc 11 (by decide), hc 12 (by decide), hc 13 (by decide)]; exact hd.job hj
  · rw [eJ] at hj
    rw [hc 11 (by decide), hc 12 (by decide)]; exact hd.span hj
theorem Vd_rule {d d' : Dt} (hd : Vd d) (hw : ∀ p, p < 4 → 0 ≤ d' 6 p ∧ d' 6 p ≤ 4) (hc : ∀ c, c ≠ 6 → d' c = d c) : Vd d' := by
  have eJ : nJ d' = nJ d := by unfold nJ; rw [hc 8 (by decide)]
  refine ⟨by rw [hc 1 (by decide)]; exact hd.1, by rw [hc 8 (by decide)]; exact hd.2.1, by rw [hc 15 (by decide)]; exact hd.2.2.1, by rw [hc 17 (by decide)]; exact hd.rest, fun p hp4 => ?_, fun j hj => ?_, fun t ht => by rw [hc 16 (by decide)]; exact hd.tug ht, fun k hk => by rw [hc 18 (by decide)]; exact hd.way hk, fun j hj => ?_⟩
  · have hx := hd.ppl hp4
    rw [hc 2 (by decide), hc 3 (by decide), hc 4 (by decide), hc 5 (by decide)]
    exact ⟨hx.1, hx.2.1, hx.2.2.1, hx.2.2.2.1, hw p hp4⟩
  · rw [hc 9 (by decide), hc 10 (by decide), hc 11 (by decide), hc 12 (by decide), hc 13 (by decide)]; exact hd.job hj
  · rw [eJ] at hj
    rw [hc 11 (by decide), hc 12 (by decide)]; exact hd.span hj
/-- two memories whose class cells (but the failures, the order, the plan) are the same hold the same data -/
theorem vx_lt {σ σ' : MI} (c : Nat) (h : ∀ k, k ≤ 18 → k = c → σ' k = σ k) : vx σ' c = vx σ c := by
  funext i
  unfold vx
  split <;> first | rfl | rw [h _ (by decide) rfl]
theorem cp_made0 {σ : MI} (hd : Vd (vx σ)) (hc : CPd σ) (h0 : σ 22 0 = 0) : CPL σ := ⟨hd, hc, fun h => absurd h0 h⟩
theorem cp_person {σ : MI} {τ : ML} {a1 a2 a3 a4 k : Int32} {σ1 : MI} {τ1 : ML} (h : CPL σ) (hq : Q_Law_person σ τ a1 a2 a3 a4 k σ1 τ1) :
    Vd (vm σ1) ∧ ∀ (b : Int32) (σ2 : MI) (τ2 : ML), Q_Mo_person σ1 τ1 a1 a2 a3 a4 b σ2 τ2 → σ2 29 0 = k ∧ (k = 0 → τ2 28 0 = b.toInt64) ∧ CPL σ2 := by
  obtain ⟨hd, hc, hp⟩ := id h
  have hnp := hd.nPl
  have e1 := vx_1 hd
  have hm := cp_vm hc
  obtain ⟨c1, c8, c15, c17, c22, cq⟩ := id hc
  rcases hq with ⟨rfl, v, τ', ⟨hok, hne, rfl, rfl, rfl⟩, rfl⟩ | ⟨⟨rfl, rfl, hz⟩, rfl⟩ | ⟨⟨rfl, rfl, hz⟩, rfl⟩
  · have hn4 : nP (vx σ) < 4 := by
      have : (σ 1 0).toInt ≠ 4 := fun z => hne (z_eq.mpr z)
      rw [e1, z_nI (by omega)] at this
      omega
    have hcl : (σ 1 0).toNatClampNeg = nP (vx σ) := by rw [e1, nI_clamp (by omega)]
    have evm : vm (addp (st2 σ 22 0 0) a1 a2 a3 a4) = vm σ := by
      refine vm_congr ?_ ?_ ?_ ?_ (fun c hc => ?_)
      · simp [addp, st2]
      · simp [addp, st2]
      · simp [addp, st2]
      · simp [addp, st2]
      · simp only [List.mem_cons, List.not_mem_nil, or_false] at hc
        unfold addp
        rw [st2_ne (by omega), st2_ne (by omega), st2_ne (by omega), st2_ne (by omega), st2_ne (by omega), st2_ne (by omega)]
    have e291 : (addp (st2 σ 22 0 0) a1 a2 a3 a4) 29 1 = σ 1 0 := by rw [c1]; simp [addp, st2]
    refine ⟨by rw [evm, hm]; exact hd, fun b σ2 τ2 hb => ?_⟩
    obtain ⟨rfl, hb⟩ := hb
    rcases hb with ⟨z, -⟩ | ⟨-, z, -⟩ | ⟨-, -, rfl, rfl⟩
    · exact absurd hok z
    · rw [e291] at z; exact absurd z hne
    · rw [e291]
      refine ⟨by simp [mperson, st2, upd], fun _ => by simp [sl2, vp_updL], cp_made0 ?_ ?_ ?_⟩
      · refine Vd_person hd hok hn4 ?_ ?_ ?_ ?_ ?_ ?_
        · show (mperson (addp (st2 σ 22 0 0) a1 a2 a3 a4) a1 a2 a3 a4 1 0).toInt = (σ 1 0).toInt + 1
          have : mperson (addp (st2 σ 22 0 0) a1 a2 a3 a4) a1 a2 a3 a4 1 0 = σ 1 0 + 1 := by simp [mperson, addp, st2, upd]
          have hz := z_nI (k := nP (vx σ)) (by omega)
          rw [this, e1, z_add (by rw [zc_1]; omega) (by rw [zc_1]; omega), zc_1]
        · intro i
          show (mperson (addp (st2 σ 22 0 0) a1 a2 a3 a4) a1 a2 a3 a4 2 i).toInt = if i = nP (vx σ) then a1.toInt else (σ 2 i).toInt
          have : mperson (addp (st2 σ 22 0 0) a1 a2 a3 a4) a1 a2 a3 a4 2 = upd (σ 2) (nP (vx σ)) a1 := by simp [mperson, addp, st2, hcl]
          rw [this]
          unfold upd
          split <;> rfl
        · intro i
          show (mperson (addp (st2 σ 22 0 0) a1 a2 a3 a4) a1 a2 a3 a4 3 i).toInt = if i = nP (vx σ) then a2.toInt else (σ 3 i).toInt
          have : mperson (addp (st2 σ 22 0 0) a1 a2 a3 a4) a1 a2 a3 a4 3 = upd (σ 3) (nP (vx σ)) a2 := by simp [mperson, addp, st2, hcl]
          rw [this]
          unfold upd
          split <;> rfl
        · intro i
          show (mperson (addp (st2 σ 22 0 0) a1 a2 a3 a4) a1 a2 a3 a4 4 i).toInt = if i = nP (vx σ) then a3.toInt else (σ 4 i).toInt
          have : mperson (addp (st2 σ 22 0 0) a1 a2 a3 a4) a1 a2 a3 a4 4 = upd (σ 4) (nP (vx σ)) a3 := by simp [mperson, addp, st2, hcl]
          rw [this]
          unfold upd
          split <;> rfl
        · intro i
          show (mperson (addp (st2 σ 22 0 0) a1 a2 a3 a4) a1 a2 a3 a4 5 i).toInt = if i = nP (vx σ) then a4.toInt else (σ 5 i).toInt
          have : mperson (addp (st2 σ 22 0 0) a1 a2 a3 a4) a1 a2 a3 a4 5 = upd (σ 5) (nP (vx σ)) a4 := by simp [mperson, addp, st2, hcl]
          rw [this]
          unfold upd
          split <;> rfl
        · intro c hcc
          refine vx_lt c (fun k hk hkc => ?_)
          subst hkc
          simp only [List.mem_cons, List.not_mem_nil, or_false] at hcc
          unfold mperson addp
          rw [st2_ne (by omega), st2_ne (by omega), st2_ne (by omega), st2_ne (by omega), st2_ne (by omega), st2_ne (by omega), st2_ne (by omega), st2_ne (by omega), st2_ne (by omega), st2_ne (by omega), st2_ne (by omega), st2_ne (by omega), st2_ne (by omega)]
      · refine ⟨?_, ?_, ?_, ?_, ?_, fun q hq => ?_⟩
        · simp [mperson, addp, st2, upd, c1]
        · simp [mperson, addp, st2, upd, c8]
        · simp [mperson, addp, st2, upd, c15]
        · simp [mperson, addp, st2, upd, c17]
        · simp [mperson, addp, st2, upd]
        · have hqq := cq q hq
          simp only [prs, List.mem_cons, List.not_mem_nil, or_false] at hq
          rcases hq with rfl | rfl | rfl | rfl | rfl | rfl | rfl | rfl | rfl | rfl | rfl | rfl | rfl <;> simp [mperson, addp, st2, c1, hqq] at hqq ⊢ <;> first | exact hqq | (rw [hqq])
      · simp [mperson, addp, st2, upd]
  · have hno : ¬ pok a1 a2 a3 a4 := by
      rcases hz with ⟨z, -⟩ | ⟨-, -, z⟩
      · exact z
      · exact absurd z nIA_IS
    refine ⟨by rw [hm]; exact hd, fun b σ2 τ2 hb => ?_⟩
    obtain ⟨rfl, hb⟩ := hb
    rcases hb with ⟨-, rfl⟩ | ⟨z, -⟩ | ⟨z, -⟩
    · exact ⟨by rw [st2_at, if_pos ⟨rfl, rfl⟩], fun z => absurd z (by decide), CPL_290 h⟩
    · exact absurd z hno
    · exact absurd z hno
  · have hno : pok a1 a2 a3 a4 ∧ σ 1 0 = 4 := by
      rcases hz with ⟨-, z⟩ | ⟨z, y, -⟩
      · exact absurd z nIS_IA
      · exact ⟨z, y⟩
    refine ⟨by rw [hm]; exact hd, fun b σ2 τ2 hb => ?_⟩
    obtain ⟨rfl, hb⟩ := hb
    rcases hb with ⟨z, -⟩ | ⟨-, -, rfl⟩ | ⟨-, z, -⟩
    · exact absurd hno.1 z
    · exact ⟨by rw [st2_at, if_pos ⟨rfl, rfl⟩], fun z => absurd z (by decide), CPL_290 h⟩
    · rw [← c1] at z; exact absurd hno.2 z
theorem cp_tug {σ : MI} {τ : ML} {a1 k : Int32} {σ1 : MI} {τ1 : ML} (h : CPL σ) (hq : Q_Law_tug σ τ a1 k σ1 τ1) :
    Vd (vm σ1) ∧ ∀ (b : Int32) (σ2 : MI) (τ2 : ML), Q_Mo_tug σ1 τ1 a1 b σ2 τ2 → σ2 29 0 = k ∧ (k = 0 → τ2 28 0 = b.toInt64) ∧ CPL σ2 := by
  obtain ⟨hd, hc, hp⟩ := id h
  have hnt := hd.nTl
  have e1 := vx_15 hd
  have hm := cp_vm hc
  obtain ⟨c1, c8, c15, c17, c22, cq⟩ := id hc
  rcases hq with ⟨rfl, v, τ', ⟨hok, hne, rfl, rfl, rfl⟩, rfl⟩ | ⟨⟨rfl, rfl, hz⟩, rfl⟩ | ⟨⟨rfl, rfl, hz⟩, rfl⟩
  · have hn4 : nT (vx σ) < 6 := by
      have : (σ 15 0).toInt ≠ 6 := fun z => hne (z_eq.mpr z)
      rw [e1, z_nI (by omega)] at this
      omega
    have hcl : (σ 15 0).toNatClampNeg = nT (vx σ) := by rw [e1, nI_clamp (by omega)]
    have evm : vm (addt (st2 σ 22 0 0) a1) = vm σ := by
      refine vm_congr ?_ ?_ ?_ ?_ (fun c hc => ?_)
      · simp [addt, st2]
      · simp [addt, st2]
      · simp [addt, st2]
      · simp [addt, st2]
      · simp only [List.mem_cons, List.not_mem_nil, or_false] at hc
        unfold addt
        rw [st2_ne (by omega), st2_ne (by omega), st2_ne (by omega)]
    have e291 : (addt (st2 σ 22 0 0) a1) 29 8 = σ 15 0 := by rw [c15]; simp [addt, st2]
    refine ⟨by rw [evm, hm]; exact hd, fun b σ2 τ2 hb => ?_⟩
    obtain ⟨rfl, hb⟩ := hb
    rcases hb with ⟨z, -⟩ | ⟨-, z, -⟩ | ⟨-, -, rfl, rfl⟩
    · exact absurd hok z
    · rw [e291] at z; exact absurd z hne
    · rw [e291]
      refine ⟨by simp [mtug, st2, upd], fun _ => by simp [sl2, vp_updL], cp_made0 ?_ ?_ ?_⟩
      · refine Vd_tug hd hok hn4 ?_ ?_ ?_
        · show (mtug (addt (st2 σ 22 0 0) a1) a1 15 0).toInt = (σ 15 0).toInt + 1
          have : mtug (addt (st2 σ 22 0 0) a1) a1 15 0 = σ 15 0 + 1 := by simp [mtug, addt, st2, upd]
          have hz := z_nI (k := nT (vx σ)) (by omega)
          rw [this, e1, z_add (by rw [zc_1]; omega) (by rw [zc_1]; omega), zc_1]
        · intro i
          show (mtug (addt (st2 σ 22 0 0) a1) a1 16 i).toInt = if i = nT (vx σ) then a1.toInt else (σ 16 i).toInt
          have : mtug (addt (st2 σ 22 0 0) a1) a1 16 = upd (σ 16) (nT (vx σ)) a1 := by simp [mtug, addt, st2, hcl]
          rw [this]
          unfold upd
          split <;> rfl
        · intro c hcc
          refine vx_lt c (fun k hk hkc => ?_)
          subst hkc
          simp only [List.mem_cons, List.not_mem_nil, or_false] at hcc
          unfold mtug addt
          rw [st2_ne (by omega), st2_ne (by omega), st2_ne (by omega), st2_ne (by omega), st2_ne (by omega), st2_ne (by omega), st2_ne (by omega)]
      · refine ⟨?_, ?_, ?_, ?_, ?_, fun q hq => ?_⟩
        · simp [mtug, addt, st2, upd, c1]
        · simp [mtug, addt, st2, upd, c8]
        · simp [mtug, addt, st2, upd, c15]
        · simp [mtug, addt, st2, upd, c17]
        · simp [mtug, addt, st2, upd]
        · have hqq := cq q hq
          simp only [prs, List.mem_cons, List.not_mem_nil, or_false] at hq
          rcases hq with rfl | rfl | rfl | rfl | rfl | rfl | rfl | rfl | rfl | rfl | rfl | rfl | rfl <;> simp [mtug, addt, st2, c15, hqq] at hqq ⊢ <;> first | exact hqq | (rw [hqq])
      · simp [mtug, addt, st2, upd]
  · have hno : ¬ tok a1 := by
      rcases hz with ⟨z, -⟩ | ⟨-, -, z⟩
      · exact z
      · exact absurd z nIA_IS
    refine ⟨by rw [hm]; exact hd, fun b σ2 τ2 hb => ?_⟩
    obtain ⟨rfl, hb⟩ := hb
    rcases hb with ⟨-, rfl⟩ | ⟨z, -⟩ | ⟨z, -⟩
    · exact ⟨by rw [st2_at, if_pos ⟨rfl, rfl⟩], fun z => absurd z (by decide), CPL_290 h⟩
    · exact absurd z hno
    · exact absurd z hno
  · have hno : tok a1 ∧ σ 15 0 = 6 := by
      rcases hz with ⟨-, z⟩ | ⟨z, y, -⟩
      · exact absurd z nIS_IA
      · exact ⟨z, y⟩
    refine ⟨by rw [hm]; exact hd, fun b σ2 τ2 hb => ?_⟩
    obtain ⟨rfl, hb⟩ := hb
    rcases hb with ⟨z, -⟩ | ⟨-, -, rfl⟩ | ⟨-, z, -⟩
    · exact absurd hno.1 z
    · exact ⟨by rw [st2_at, if_pos ⟨rfl, rfl⟩], fun z => absurd z (by decide), CPL_290 h⟩
    · rw [← c15] at z; exact absurd hno.2 z
theorem cp_job {σ : MI} {τ : ML} {a1 a2 a3 a4 a5 k : Int32} {σ1 : MI} {τ1 : ML} (h : CPL σ) (hq : Q_Law_job σ τ a1 a2 a3 a4 a5 k σ1 τ1) :
    Vd (vm σ1) ∧ ∀ (b : Int32) (σ2 : MI) (τ2 : ML), Q_Mo_job σ1 τ1 a1 a2 a3 a4 a5 b σ2 τ2 → σ2 29 0 = k ∧ (k = 0 → τ2 28 0 = b.toInt64) ∧ CPL σ2 := by
  obtain ⟨hd, hc, hp⟩ := id h
  have hnj := hd.nJl
  have e1 := vx_8 hd
  have hm := cp_vm hc
  obtain ⟨c1, c8, c15, c17, c22, cq⟩ := id hc
  rcases hq with ⟨rfl, v, τ', ⟨hok, hne, rfl, rfl, rfl⟩, rfl⟩ | ⟨⟨rfl, rfl, hz⟩, rfl⟩ | ⟨⟨rfl, rfl, hz⟩, rfl⟩
  · have hn4 : nJ (vx σ) < 7 := by
      have : (σ 8 0).toInt ≠ 7 := fun z => hne (z_eq.mpr z)
      rw [e1, z_nI (by omega)] at this
      omega
    have hcl : (σ 8 0).toNatClampNeg = nJ (vx σ) := by rw [e1, nI_clamp (by omega)]
    have evm : vm (addj (st2 σ 22 0 0) a1 a2 a3 a4 a5) = vm σ := by
      refine vm_congr ?_ ?_ ?_ ?_ (fun c hc => ?_)
      · simp [addj, st2]
      · simp [addj, st2]
      · simp [addj, st2]
      · simp [addj, st2]
      · simp only [List.mem_cons, List.not_mem_nil, or_false] at hc
        unfold addj
        rw [st2_ne (by omega), st2_ne (by omega), st2_ne (by omega), st2_ne (by omega), st2_ne (by omega), st2_ne (by omega), st2_ne (by omega)]
    have e291 : (addj (st2 σ 22 0 0) a1 a2 a3 a4 a5) 29 10 = σ 8 0 := by rw [c8]; simp [addj, st2]
    refine ⟨by rw [evm, hm]; exact hd, fun b σ2 τ2 hb => ?_⟩
    obtain ⟨rfl, hb⟩ := hb
    rcases hb with ⟨z, -⟩ | ⟨-, z, -⟩ | ⟨-, -, rfl, rfl⟩
    · exact absurd hok z
    · rw [e291] at z; exact absurd z hne
    · rw [e291]
      have cell : ∀ c a, (c, a) ∈ [(9, a1), (10, a2), (11, a3), (12, a4), (13, a5)] → mjob (addj (st2 σ 22 0 0) a1 a2 a3 a4 a5) a1 a2 a3 a4 a5 c = upd (σ c) (nJ (vx σ)) a := by
        intro c a hca
        simp only [List.mem_cons, List.not_mem_nil, or_false, Prod.mk.injEq] at hca
        rcases hca with ⟨rfl, rfl⟩ | ⟨rfl, rfl⟩ | ⟨rfl, rfl⟩ | ⟨rfl, rfl⟩ | ⟨rfl, rfl⟩ <;> simp [mjob, addj, st2, hcl]
      have val : ∀ c a i, mjob (addj (st2 σ 22 0 0) a1 a2 a3 a4 a5) a1 a2 a3 a4 a5 c = upd (σ c) (nJ (vx σ)) a → (mjob (addj (st2 σ 22 0 0) a1 a2 a3 a4 a5) a1 a2 a3 a4 a5 c i).toInt = if i = nJ (vx σ) then a.toInt else (σ c i).toInt := by
        intro c a i hh
        rw [hh]
        unfold upd
        split <;> rfl
      refine ⟨by simp [mjob, st2, upd], fun _ => by simp [sl2, vp_updL], cp_made0 ?_ ?_ ?_⟩
      · refine Vd_job hd hok hn4 ?_ ?_ ?_ ?_ ?_ ?_ ?_
        · show (mjob (addj (st2 σ 22 0 0) a1 a2 a3 a4 a5) a1 a2 a3 a4 a5 8 0).toInt = (σ 8 0).toInt + 1
          have : mjob (addj (st2 σ 22 0 0) a1 a2 a3 a4 a5) a1 a2 a3 a4 a5 8 0 = σ 8 0 + 1 := by simp [mjob, addj, st2, upd]
          have hz := z_nI (k := nJ (vx σ)) (by omega)
          rw [this, e1, z_add (by rw [zc_1]; omega) (by rw [zc_1]; omega), zc_1]
        · exact fun i => val 9 a1 i (cell 9 a1 (by simp))
        · exact fun i => val 10 a2 i (cell 10 a2 (by simp))
        · exact fun i => val 11 a3 i (cell 11 a3 (by simp))
        · exact fun i => val 12 a4 i (cell 12 a4 (by simp))
        · exact fun i => val 13 a5 i (cell 13 a5 (by simp))
        · intro c hcc
          refine vx_lt c (fun k hk hkc => ?_)
          subst hkc
          simp only [List.mem_cons, List.not_mem_nil, or_false] at hcc
          unfold mjob addj
          rw [st2_ne (by omega), st2_ne (by omega), st2_ne (by omega), st2_ne (by omega), st2_ne (by omega), st2_ne (by omega), st2_ne (by omega), st2_ne (by omega), st2_ne (by omega), st2_ne (by omega), st2_ne (by omega), st2_ne (by omega), st2_ne (by omega), st2_ne (by omega), st2_ne (by omega)]
      · refine ⟨?_, ?_, ?_, ?_, ?_, fun q hq => ?_⟩
        · simp [mjob, addj, st2, upd, c1]
        · simp [mjob, addj, st2, upd, c8]
        · simp [mjob, addj, st2, upd, c15]
        · simp [mjob, addj, st2, upd, c17]
        · simp [mjob, addj, st2, upd]
        · have hqq := cq q hq
          simp only [prs, List.mem_cons, List.not_mem_nil, or_false] at hq
          rcases hq with rfl | rfl | rfl | rfl | rfl | rfl | rfl | rfl | rfl | rfl | rfl | rfl | rfl <;> simp [mjob, addj, st2, c8, hqq] at hqq ⊢ <;> first | exact hqq | (rw [hqq])
      · simp [mjob, addj, st2, upd]
  · have hno : ¬ jok a1 a2 a3 a4 a5 := by
      rcases hz with ⟨z, -⟩ | ⟨-, -, z⟩
      · exact z
      · exact absurd z nIA_IS
    refine ⟨by rw [hm]; exact hd, fun b σ2 τ2 hb => ?_⟩
    obtain ⟨rfl, hb⟩ := hb
    rcases hb with ⟨-, rfl⟩ | ⟨z, -⟩ | ⟨z, -⟩
    · exact ⟨by rw [st2_at, if_pos ⟨rfl, rfl⟩], fun z => absurd z (by decide), CPL_290 h⟩
    · exact absurd z hno
    · exact absurd z hno
  · have hno : jok a1 a2 a3 a4 a5 ∧ σ 8 0 = 7 := by
      rcases hz with ⟨-, z⟩ | ⟨z, y, -⟩
      · exact absurd z nIS_IA
      · exact ⟨z, y⟩
    refine ⟨by rw [hm]; exact hd, fun b σ2 τ2 hb => ?_⟩
    obtain ⟨rfl, hb⟩ := hb
    rcases hb with ⟨z, -⟩ | ⟨-, -, rfl⟩ | ⟨-, z, -⟩
    · exact absurd hno.1 z
    · exact ⟨by rw [st2_at, if_pos ⟨rfl, rfl⟩], fun z => absurd z (by decide), CPL_290 h⟩
    · rw [← c8] at z; exact absurd hno.2 z
theorem cp_share {σ : MI} {τ : ML} {a1 a2 k : Int32} {σ1 : MI} {τ1 : ML} (h : CPL σ) (hq : Q_Law_share σ τ a1 a2 k σ1 τ1) :
    ∀ (b : Int32) (σ2 : MI) (τ2 : ML), Q_Mo_share σ1 τ1 a1 a2 b σ2 τ2 → σ2 29 0 = k ∧ (k = 0 → τ2 28 0 = b.toInt64) ∧ CPL σ2 := by
  intro b σ2 τ2 hb
  obtain ⟨rfl, hb⟩ := hb
  rcases hq with ⟨rfl, v, τ', ⟨hok, hne, rfl, rfl, rfl⟩, rfl⟩ | ⟨⟨rfl, rfl, hz⟩, rfl⟩ | ⟨⟨rfl, rfl, hz⟩, rfl⟩
  · rcases hb with ⟨z, -⟩ | ⟨-, z, -⟩ | ⟨-, -, rfl, rfl⟩
    · exact absurd hok z
    · exact absurd z hne
    · exact ⟨by rw [st2_at, if_pos ⟨rfl, rfl⟩], fun _ => by simp [sl2, vp_updL], CPL_290 h⟩
  · have hno : ¬ shok a1 a2 := by
      rcases hz with ⟨z, -⟩ | ⟨-, -, z⟩
      · exact z
      · exact absurd z nIA_AR
    rcases hb with ⟨-, rfl⟩ | ⟨z, -⟩ | ⟨z, -⟩
    · exact ⟨by rw [st2_at, if_pos ⟨rfl, rfl⟩], fun z => absurd z (by decide), CPL_290 h⟩
    · exact absurd z hno
    · exact absurd z hno
  · have hno : shok a1 a2 ∧ a2 = 0 := by
      rcases hz with ⟨-, z⟩ | ⟨z, y, -⟩
      · exact absurd z nAR_IA
      · exact ⟨z, y⟩
    rcases hb with ⟨z, -⟩ | ⟨-, -, rfl⟩ | ⟨-, z, -⟩
    · exact absurd hno.1 z
    · exact ⟨by rw [st2_at, if_pos ⟨rfl, rfl⟩], fun z => absurd z (by decide), CPL_290 h⟩
    · exact absurd hno.2 z
theorem cp_plm {σ : MI} (h : CPL σ) : Vd (vm σ) ∧ (σ 29 18 ≠ 0 → PLM σ) := by
  obtain ⟨hd, hc, hp⟩ := h
  refine ⟨by rw [cp_vm hc]; exact hd, fun z => (hp ?_).2⟩
  rw [hc.2.2.2.2.1]; exact z
theorem cp_of {σ : MI} {τ : ML} {a1 a2 k : Int32} {σ1 : MI} {τ1 : ML} (h : CPL σ) (hq : Q_Law_of σ τ a1 a2 k σ1 τ1) :
    P_Mo_of σ1 τ1 a1 a2 ∧ ∀ (b : Int32) (σ2 : MI) (τ2 : ML), Q_Mo_of σ1 τ1 a1 a2 b σ2 τ2 → σ2 29 0 = k ∧ (k = 0 → τ2 28 0 = b.toInt64) ∧ CPL σ2 := by
  obtain ⟨hd, hc, hp⟩ := id h
  have hn := hd.nJl
  have hm := cp_vm hc
  obtain ⟨c1, c8, c15, c17, c22, cq⟩ := id hc
  rcases hq with ⟨rfl, v, τ', ⟨hok, hne, hA, rfl, rfl⟩, rfl⟩ | ⟨⟨rfl, rfl, hz⟩, rfl⟩ | ⟨⟨rfl, rfl, hz⟩, rfl⟩
  · refine ⟨cp_plm h, fun b σ2 τ2 hb => ?_⟩
    obtain ⟨rfl, hb⟩ := hb
    rw [← c8, ← c22] at hb
    rcases hb with ⟨z, -⟩ | ⟨-, z, -⟩ | ⟨-, -, hA2, rfl⟩
    · exact absurd hok z
    · exact absurd z hne
    · obtain ⟨p1, p2, -⟩ := cp_plan hd hm (hp hne).1 (hp hne).2
      have hj : a1.toNatClampNeg < nJ (vx σ) := by
        have h1 := hok.1
        rw [vx_8 hd, z_nI (by omega)] at h1
        rw [z_cl]; omega
      rw [hm] at hA2
      have := OfA_uniq hj p1 (p2 _ hj) hok.2 hA hA2
      subst this
      exact ⟨by rw [st2_at, if_pos ⟨rfl, rfl⟩], fun _ => by simp [sl2, vp_updL], CPL_290 h⟩
  · have hno : ¬ ofok (σ 8 0).toInt a1 a2 := by
      rcases hz with ⟨z, -⟩ | ⟨-, -, z⟩
      · exact z
      · exact absurd z nIO_IS
    refine ⟨cp_plm h, fun b σ2 τ2 hb => ?_⟩
    obtain ⟨rfl, hb⟩ := hb
    rw [← c8, ← c22] at hb
    rcases hb with ⟨-, rfl⟩ | ⟨z, -⟩ | ⟨z, -⟩
    · exact ⟨by rw [st2_at, if_pos ⟨rfl, rfl⟩], fun z => absurd z (by decide), CPL_290 h⟩
    · exact absurd z hno
    · exact absurd z hno
  · have hno : ofok (σ 8 0).toInt a1 a2 ∧ σ 22 0 = 0 := by
      rcases hz with ⟨-, z⟩ | ⟨z, y, -⟩
      · exact absurd z nIS_IO
      · exact ⟨z, y⟩
    refine ⟨cp_plm h, fun b σ2 τ2 hb => ?_⟩
    obtain ⟨rfl, hb⟩ := hb
    rw [← c8, ← c22] at hb
    rcases hb with ⟨z, -⟩ | ⟨-, -, rfl⟩ | ⟨-, z, -⟩
    · exact absurd hno.1 z
    · exact ⟨by rw [st2_at, if_pos ⟨rfl, rfl⟩], fun z => absurd z (by decide), CPL_290 h⟩
    · exact absurd hno.2 z
theorem cp_day {σ : MI} {τ : ML} {a1 a2 k : Int32} {σ1 : MI} {τ1 : ML} (h : CPL σ) (hq : Q_Law_day σ τ a1 a2 k σ1 τ1) :
    P_Mo_day σ1 τ1 a1 a2 ∧ ∀ (b : Int32) (σ2 : MI) (τ2 : ML), Q_Mo_day σ1 τ1 a1 a2 b σ2 τ2 → σ2 29 0 = k ∧ (k = 0 → τ2 28 0 = b.toInt64) ∧ CPL σ2 := by
  obtain ⟨hd, hc, hp⟩ := id h
  have hm := cp_vm hc
  obtain ⟨c1, c8, c15, c17, c22, cq⟩ := id hc
  rcases hq with ⟨rfl, v, τ', ⟨hok, hne, hA, rfl, rfl⟩, rfl⟩ | ⟨⟨rfl, rfl, hz⟩, rfl⟩ | ⟨⟨rfl, rfl, hz⟩, rfl⟩
  · refine ⟨cp_plm h, fun b σ2 τ2 hb => ?_⟩
    obtain ⟨rfl, hb⟩ := hb
    rw [← c1, ← c22] at hb
    rcases hb with ⟨z, -⟩ | ⟨-, z, -⟩ | ⟨-, -, hA2, rfl⟩
    · exact absurd hok z
    · exact absurd z hne
    · obtain ⟨p1, p2, -⟩ := cp_plan hd hm (hp hne).1 (hp hne).2
      rw [hm] at hA2
      have := DayA_uniq (DayA_congr (fun k hk => p1 _ ((od_ok (vx σ) (nJ (vx σ))).1 k hk)) hA) hA2
      subst this
      exact ⟨by rw [st2_at, if_pos ⟨rfl, rfl⟩], fun _ => by simp [sl2, vp_updL], CPL_290 h⟩
  · have hno : ¬ inP (σ 1 0).toInt a1 := by
      rcases hz with ⟨z, -⟩ | ⟨-, -, z⟩
      · exact z
      · exact absurd z nIO_IS
    refine ⟨cp_plm h, fun b σ2 τ2 hb => ?_⟩
    obtain ⟨rfl, hb⟩ := hb
    rw [← c1, ← c22] at hb
    rcases hb with ⟨-, rfl⟩ | ⟨z, -⟩ | ⟨z, -⟩
    · exact ⟨by rw [st2_at, if_pos ⟨rfl, rfl⟩], fun z => absurd z (by decide), CPL_290 h⟩
    · exact absurd z hno
    · exact absurd z hno
  · have hno : inP (σ 1 0).toInt a1 ∧ σ 22 0 = 0 := by
      rcases hz with ⟨-, z⟩ | ⟨z, y, -⟩
      · exact absurd z nIS_IO
      · exact ⟨z, y⟩
    refine ⟨cp_plm h, fun b σ2 τ2 hb => ?_⟩
    obtain ⟨rfl, hb⟩ := hb
    rw [← c1, ← c22] at hb
    rcases hb with ⟨z, -⟩ | ⟨-, -, rfl⟩ | ⟨-, z, -⟩
    · exact absurd hno.1 z
    · exact ⟨by rw [st2_at, if_pos ⟨rfl, rfl⟩], fun z => absurd z (by decide), CPL_290 h⟩
    · exact absurd hno.2 z
theorem cp_waits {σ : MI} {τ : ML} {a1 k : Int32} {σ1 : MI} {τ1 : ML} (h : CPL σ) (hq : Q_Law_waits σ τ a1 k σ1 τ1) :
    P_Mo_waits σ1 τ1 a1 ∧ ∀ (b : Int32) (σ2 : MI) (τ2 : ML), Q_Mo_waits σ1 τ1 a1 b σ2 τ2 → σ2 29 0 = k ∧ (k = 0 → τ2 28 0 = b.toInt64) ∧ CPL σ2 := by
  obtain ⟨hd, hc, hp⟩ := id h
  have hm := cp_vm hc
  obtain ⟨c1, c8, c15, c17, c22, cq⟩ := id hc
  rcases hq with ⟨rfl, v, τ', ⟨hok, hne, hA, rfl, rfl⟩, rfl⟩ | ⟨⟨rfl, rfl, hz⟩, rfl⟩ | ⟨⟨rfl, rfl, hz⟩, rfl⟩
  · refine ⟨cp_plm h, fun b σ2 τ2 hb => ?_⟩
    obtain ⟨rfl, hb⟩ := hb
    rw [← c1, ← c22] at hb
    rcases hb with ⟨z, -⟩ | ⟨-, z, -⟩ | ⟨-, -, hA2, rfl⟩
    · exact absurd hok z
    · exact absurd z hne
    · obtain ⟨p1, p2, -⟩ := cp_plan hd hm (hp hne).1 (hp hne).2
      rw [hm] at hA2
      have e := wtn_congr (d := vx σ) (p := a1.toNatClampNeg) (fun k hk => p1 _ ((od_ok (vx σ) (nJ (vx σ))).1 k hk)) (nJ (vx σ)) (Nat.le_refl _)
      rw [e] at hA
      have : v = b := z_eq.mpr (hA.trans hA2.symm)
      subst this
      exact ⟨by rw [st2_at, if_pos ⟨rfl, rfl⟩], fun _ => by simp [sl2, vp_updL], CPL_290 h⟩
  · have hno : ¬ inP (σ 1 0).toInt a1 := by
      rcases hz with ⟨z, -⟩ | ⟨-, -, z⟩
      · exact z
      · exact absurd z nIO_IS
    refine ⟨cp_plm h, fun b σ2 τ2 hb => ?_⟩
    obtain ⟨rfl, hb⟩ := hb
    rw [← c1, ← c22] at hb
    rcases hb with ⟨-, rfl⟩ | ⟨z, -⟩ | ⟨z, -⟩
    · exact ⟨by rw [st2_at, if_pos ⟨rfl, rfl⟩], fun z => absurd z (by decide), CPL_290 h⟩
    · exact absurd z hno
    · exact absurd z hno
  · have hno : inP (σ 1 0).toInt a1 ∧ σ 22 0 = 0 := by
      rcases hz with ⟨-, z⟩ | ⟨z, y, -⟩
      · exact absurd z nIS_IO
      · exact ⟨z, y⟩
    refine ⟨cp_plm h, fun b σ2 τ2 hb => ?_⟩
    obtain ⟨rfl, hb⟩ := hb
    rw [← c1, ← c22] at hb
    rcases hb with ⟨z, -⟩ | ⟨-, -, rfl⟩ | ⟨-, z, -⟩
    · exact absurd hno.1 z
    · exact ⟨by rw [st2_at, if_pos ⟨rfl, rfl⟩], fun z => absurd z (by decide), CPL_290 h⟩
    · exact absurd hno.2 z
theorem cp_count {σ : MI} {τ : ML} {a1 r : Int32} {σ1 : MI} {τ1 : ML} (h : CPL σ) (hq : Q_PT_count σ τ a1 r σ1 τ1) :
    P_Mo_count σ1 τ1 a1 ∧ ∀ (b : Int32) (σ2 : MI) (τ2 : ML), Q_Mo_count σ1 τ1 a1 b σ2 τ2 → r = b ∧ CPL σ2 := by
  obtain ⟨hd, hc, hp⟩ := id h
  have hm := cp_vm hc
  obtain ⟨c1, c8, c15, c17, c22, cq⟩ := id hc
  obtain ⟨rfl, rfl, hf⟩ := hq
  refine ⟨cp_plm h, fun b σ2 τ2 hb => ?_⟩
  obtain ⟨rfl, rfl, hg⟩ := hb
  refine ⟨?_, CPL_290 h⟩
  rw [← c1, ← c8, ← c15, ← c22, ← cq (7, 35) (by decide)] at hg
  refine cnf_uniq (fun hne => ?_) hf hg
  obtain ⟨-, -, p3, p4, -⟩ := cp_plan hd hm (hp hne).1 (hp hne).2
  exact ⟨p4, p3⟩
theorem cp_travels {σ : MI} {τ : ML} {a1 a2 a3 r : Int32} {σ1 : MI} {τ1 : ML} (h : CPL σ) (hq : Q_PT_travels σ τ a1 a2 a3 r σ1 τ1) :
    ∀ (b : Int32) (σ2 : MI) (τ2 : ML), Q_Mo_travels σ1 τ1 a1 a2 a3 b σ2 τ2 → r = b ∧ CPL σ2 := by
  obtain ⟨hd, hc, hp⟩ := id h
  obtain ⟨c1, c8, c15, c17, c22, cq⟩ := id hc
  intro b σ2 τ2 hb
  obtain ⟨rfl, hq⟩ := hq
  obtain ⟨rfl, hb⟩ := hb
  rcases hq with ⟨hok, rfl, rfl⟩ | ⟨hno, rfl, rfl⟩
  · rcases hb with ⟨-, rfl, rfl⟩ | ⟨z, -⟩
    · refine ⟨rfl, cp_made0 ?_ ?_ ?_⟩
      · refine Vd_way hd (fun k hk => ?_) (fun c hcc => ?_)
        · have hk2 := hd.way hk
          have h3 := hok.2.2.2
          have e : vx σ 18 k = (σ 18 k).toInt := rfl
          rw [e] at hk2
          show 0 ≤ (_ : Int32).toInt ∧ (_ : Int32).toInt ≤ 300
          simp only [st2, upd]
          simp
          unfold upd
          split
          · exact h3
          · split
            · exact h3
            · exact hk2
        · refine vx_lt c (fun k hk hkc => ?_)
          subst hkc
          rw [st2_ne (by omega), st2_ne (by omega), st2_ne (by omega), st2_ne (by omega), st2_ne (by omega), st2_ne (by omega), st2_ne (by omega)]
      · refine ⟨?_, ?_, ?_, ?_, ?_, fun q hq => ?_⟩
        · simp [st2, upd, c1]
        · simp [st2, upd, c8]
        · simp [st2, upd, c15]
        · simp [st2, upd, c17]
        · simp [st2, upd]
        · have hqq := cq q hq
          simp only [prs, List.mem_cons, List.not_mem_nil, or_false] at hq
          rcases hq with rfl | rfl | rfl | rfl | rfl | rfl | rfl | rfl | rfl | rfl | rfl | rfl | rfl <;> simp [st2, hqq] at hqq ⊢ <;> first | exact hqq | (rw [hqq])
      · simp [st2, upd]
    · exact absurd hok z
  · rcases hb with ⟨z, -⟩ | ⟨-, rfl, rfl⟩
    · exact absurd z hno
    · exact ⟨rfl, CPL_290 h⟩
theorem cp_rest {σ : MI} {τ : ML} {a1 r : Int32} {σ1 : MI} {τ1 : ML} (h : CPL σ) (hq : Q_PT_rest σ τ a1 r σ1 τ1) :
    ∀ (b : Int32) (σ2 : MI) (τ2 : ML), Q_Mo_rest σ1 τ1 a1 b σ2 τ2 → r = b ∧ CPL σ2 := by
  obtain ⟨hd, hc, hp⟩ := id h
  obtain ⟨c1, c8, c15, c17, c22, cq⟩ := id hc
  intro b σ2 τ2 hb
  obtain ⟨rfl, hq⟩ := hq
  obtain ⟨rfl, hb⟩ := hb
  rcases hq with ⟨hok, rfl, rfl⟩ | ⟨hno, rfl, rfl⟩
  · rcases hb with ⟨-, rfl, rfl⟩ | ⟨z, -⟩
    · refine ⟨rfl, cp_made0 ?_ ?_ ?_⟩
      · refine Vd_rest hd ?_ (fun c hcc => ?_)
        · show 0 ≤ (_ : Int32).toInt ∧ (_ : Int32).toInt ≤ 300
          simp only [st2, upd]
          simp
          unfold upd
          simpa using hok
        · refine vx_lt c (fun k hk hkc => ?_)
          subst hkc
          rw [st2_ne (by omega), st2_ne (by omega), st2_ne (by omega), st2_ne (by omega), st2_ne (by omega)]
      · refine ⟨?_, ?_, ?_, ?_, ?_, fun q hq => ?_⟩
        · simp [st2, upd, c1]
        · simp [st2, upd, c8]
        · simp [st2, upd, c15]
        · simp [st2, upd]
        · simp [st2, upd]
        · have hqq := cq q hq
          simp only [prs, List.mem_cons, List.not_mem_nil, or_false] at hq
          rcases hq with rfl | rfl | rfl | rfl | rfl | rfl | rfl | rfl | rfl | rfl | rfl | rfl | rfl <;> simp [st2, hqq] at hqq ⊢ <;> first | exact hqq | (rw [hqq])
      · simp [st2, upd]
    · exact absurd hok z
  · rcases hb with ⟨z, -⟩ | ⟨-, rfl, rfl⟩
    · exact absurd z hno
    · exact ⟨rfl, CPL_290 h⟩
theorem cp_rule {σ : MI} {τ : ML} {a1 a2 r : Int32} {σ1 : MI} {τ1 : ML} (h : CPL σ) (hq : Q_PT_rule σ τ a1 a2 r σ1 τ1) :
    Vd (vm σ1) ∧ ∀ (b : Int32) (σ2 : MI) (τ2 : ML), Q_Mo_rule σ1 τ1 a1 a2 b σ2 τ2 → r = b ∧ CPL σ2 := by
  obtain ⟨hd, hc, hp⟩ := id h
  have hm := cp_vm hc
  obtain ⟨c1, c8, c15, c17, c22, cq⟩ := id hc
  obtain ⟨rfl, hq⟩ := hq
  rcases hq with ⟨hok, rfl, rfl⟩ | ⟨hno, rfl, rfl⟩
  · have evm : vm (st2 (st2 σ 22 0 0) 6 a1.toNatClampNeg a2) = vm σ := by
      refine vm_congr ?_ ?_ ?_ ?_ (fun c hc => ?_)
      · simp [st2]
      · simp [st2]
      · simp [st2]
      · simp [st2]
      · simp only [List.mem_cons, List.not_mem_nil, or_false] at hc
        rw [st2_ne (by omega), st2_ne (by omega)]
    have e291 : (st2 (st2 σ 22 0 0) 6 a1.toNatClampNeg a2) 29 1 = σ 1 0 := by rw [c1]; simp [st2]
    refine ⟨by rw [evm, hm]; exact hd, fun b σ2 τ2 hb => ?_⟩
    obtain ⟨rfl, hb⟩ := hb
    have hmu : muok (st2 (st2 σ 22 0 0) 6 a1.toNatClampNeg a2) a1 a2 := by
      unfold muok; rw [e291]; exact hok
    rcases hb with ⟨-, rfl, rfl⟩ | ⟨z, -⟩
    · refine ⟨rfl, cp_made0 ?_ ?_ ?_⟩
      · refine Vd_rule hd (fun k hk => ?_) (fun c hcc => ?_)
        · have hk2 := (hd.ppl hk).2.2.2.2
          have h3 := hok.2
          have e : vx σ 6 k = (σ 6 k).toInt := rfl
          rw [e] at hk2
          show 0 ≤ (_ : Int32).toInt ∧ (_ : Int32).toInt ≤ 4
          simp only [st2, upd]
          simp
          unfold upd
          split
          · exact h3
          · exact hk2
        · refine vx_lt c (fun k hk hkc => ?_)
          subst hkc
          rw [st2_ne (by omega), st2_ne (by omega), st2_ne (by omega), st2_ne (by omega), st2_ne (by omega)]
      · refine ⟨?_, ?_, ?_, ?_, ?_, fun q hq => ?_⟩
        · simp [st2, upd, c1]
        · simp [st2, upd, c8]
        · simp [st2, upd, c15]
        · simp [st2, upd, c17]
        · simp [st2, upd]
        · have hqq := cq q hq
          simp only [prs, List.mem_cons, List.not_mem_nil, or_false] at hq
          rcases hq with rfl | rfl | rfl | rfl | rfl | rfl | rfl | rfl | rfl | rfl | rfl | rfl | rfl <;> simp [st2, hqq] at hqq ⊢ <;> first | exact hqq | (rw [hqq])
      · simp [st2, upd]
    · exact absurd hmu z
  · refine ⟨by rw [hm]; exact hd, fun b σ2 τ2 hb => ?_⟩
    obtain ⟨rfl, hb⟩ := hb
    have hmu : ¬ muok σ a1 a2 := by
      unfold muok; rw [← c1]; exact hno
    rcases hb with ⟨z, -⟩ | ⟨-, rfl, rfl⟩
    · exact absurd z hmu
    · exact ⟨rfl, CPL_290 h⟩
/-- both make their plans, over data that are the same -/
theorem cp_both {σ : MI} {τ : ML} {σ1 : MI} {τ1 : ML} {s2 : MI} {σ2 : MI} {τ2 : ML} (hd : Vd (vx σ)) (hc : CPd σ) (hx : Q_PT_makePlan σ τ σ1 τ1) (h2 : ∀ c, c ≠ 29 → s2 c = σ1 c) (h29 : ∀ i, i ≠ 0 → s2 29 i = σ1 29 i) (hm : Q_Mo_search s2 τ1 σ2 τ2) : CPL σ2 ∧ Vd (vx σ2) ∧ vm σ2 = vx σ2 ∧ PLX σ2 ∧ PLM σ2 ∧ vx σ2 = vx σ ∧ adx σ2 = adx σ1 ∧ (∀ c, c < 28 → σ2 c = σ1 c) := by
  obtain ⟨x1, x2, x3, x4, x5⟩ := hx
  obtain ⟨-, m2, m3, m4, m5, m6⟩ := id hm
  obtain ⟨c1, c8, c15, c17, c22, cq⟩ := id hc
  have l28 : ∀ c, c < 28 → σ2 c = σ1 c := fun c hcl => by
    rw [m2 c (by simp only [List.mem_cons, List.not_mem_nil, or_false]; omega), h2 c (by omega)]
  have ex1 : vx σ1 = vx σ := vx_plan x2
  have ex2 : vx σ2 = vx σ := by
    rw [← ex1]
    exact vx_congr (by rw [l28 1 (by decide)]) (by rw [l28 8 (by decide)]) (by rw [l28 15 (by decide)]) (by rw [l28 17 (by decide)]) (fun c hc => l28 c (by simp only [List.mem_cons, List.not_mem_nil, or_false] at hc; omega))
  have k1 : ∀ c, c ∉ [7, 14, 22, 23, 24, 25, 26] → σ1 c = σ c := x2
  have s2c : ∀ c, c ≠ 29 → c ∉ [7, 14, 22, 23, 24, 25, 26] → s2 c = σ c := fun c z1 z2 => by rw [h2 c z1]; exact k1 c z2
  have s29 : ∀ i, i ≠ 0 → s2 29 i = σ 29 i := fun i hi => by rw [h29 i hi, k1 29 (by decide)]
  have evs : vm s2 = vm σ := by
    refine vm_congr (s29 1 (by decide)) (s29 10 (by decide)) (s29 8 (by decide)) (s29 17 (by decide)) (fun c hc => ?_)
    simp only [List.mem_cons, List.not_mem_nil, or_false] at hc
    exact s2c c (by omega) (by simp only [List.mem_cons, List.not_mem_nil, or_false]; omega)
  have hCd : CPd σ2 := by
    refine ⟨?_, ?_, ?_, ?_, ?_, fun q hq => ?_⟩
    · rw [l28 1 (by decide), k1 1 (by decide), m3 1 (by decide) (by decide), s29 1 (by decide)]; exact c1
    · rw [l28 8 (by decide), k1 8 (by decide), m3 10 (by decide) (by decide), s29 10 (by decide)]; exact c8
    · rw [l28 15 (by decide), k1 15 (by decide), m3 8 (by decide) (by decide), s29 8 (by decide)]; exact c15
    · rw [l28 17 (by decide), k1 17 (by decide), m3 17 (by decide) (by decide), s29 17 (by decide)]; exact c17
    · rw [l28 22 (by decide), x4, m4]
    · have hqq := cq q hq
      by_cases z : q = (7, 35)
      · subst z
        show σ2 7 = σ2 35
        rw [l28 7 (by decide), x3, m5, s2c 35 (by decide) (by decide), evs, cp_vm hc]
        have : σ 7 = σ 35 := hqq
        rw [this]
      · have hr : ∀ q ∈ prs, q ≠ (7, 35) → q.1 < 28 ∧ q.1 ∉ [7, 14, 22, 23, 24, 25, 26] ∧ q.2 ≠ 29 ∧ q.2 ∉ [29, 35, 43, 44, 45, 46] ∧ q.2 ∉ [7, 14, 22, 23, 24, 25, 26] := by decide
        obtain ⟨r1, r2, r3, r4, r5⟩ := hr q hq z
        rw [l28 _ r1, k1 _ r2, m2 _ r4, s2c _ r3 r5]
        exact hqq
  have hd2 : Vd (vx σ2) := by rw [ex2]; exact hd
  have hPX : PLX σ2 := PLX_congr l28 x5
  exact ⟨⟨hd2, hCd, fun _ => ⟨hPX, m6⟩⟩, hd2, cp_vm hCd, hPX, m6, ex2, by unfold adx; rw [l28 23 (by decide)], l28⟩
theorem cp_assign {σ : MI} {τ : ML} {r : Int32} {σ1 : MI} {τ1 : ML} (h : CPL σ) (hq : Q_PT_assign σ τ r σ1 τ1) :
    Vd (vm σ1) ∧ ∀ (b : Int32) (σ2 : MI) (τ2 : ML), Q_Mo_assign σ1 τ1 b σ2 τ2 → r = b ∧ CPL σ2 := by
  obtain ⟨hd, hc, hp⟩ := id h
  obtain ⟨hx, hr⟩ := hq
  have k1 := hx.2.1
  have evm : vm σ1 = vm σ := vm_congr (by rw [k1 29 (by decide)]) (by rw [k1 29 (by decide)]) (by rw [k1 29 (by decide)]) (by rw [k1 29 (by decide)]) (fun c hc => by
    simp only [List.mem_cons, List.not_mem_nil, or_false] at hc
    exact k1 c (by simp only [List.mem_cons, List.not_mem_nil, or_false]; omega))
  refine ⟨by rw [evm, cp_vm hc]; exact hd, fun b σ2 τ2 hb => ?_⟩
  obtain ⟨hm, hb⟩ := hb
  obtain ⟨p1, p2, p3, p4, p5, p6, p7, p8⟩ := cp_both hd hc hx (fun c hc => st2_ne hc) (fun i hi => by rw [st2_at, if_neg (by omega)]) hm
  refine ⟨?_, p1⟩
  obtain ⟨q1, q2, q3, q4, q5⟩ := cp_plan p2 p3 p4 p5
  rw [p8 22 (by decide)] at q4 q5
  have hle := cnt_le (fun j => decide (av σ2 43 j < nP (vm σ2))) (nJ (vm σ2))
  have hnj := p2.nJl
  rw [← p3] at hnj
  have hz : σ1 22 2 = 0 ↔ gvn σ2 = 0 := by
    rw [q4]
    exact nI_eq (b := 0) (by unfold gvn; omega) (by decide)
  rcases hr with ⟨z, rfl⟩ | ⟨z, rfl⟩ <;> rcases hb with ⟨y, rfl⟩ | ⟨y, rfl⟩
  · rfl
  · exact absurd (hz.mp z) y
  · exact absurd (hz.mpr y) z
  · exact q5
theorem cp_late {σ : MI} {τ : ML} {a1 a2 k : Int32} {σ1 : MI} {τ1 : ML} (h : CPL σ) (hq : Q_Law_late σ τ a1 a2 k σ1 τ1) :
    P_Mo_late σ1 τ1 a1 a2 ∧ ∀ (b : Int32) (σ2 : MI) (τ2 : ML), Q_Mo_late σ1 τ1 a1 a2 b σ2 τ2 → σ2 29 0 = k ∧ (k = 0 → τ2 28 0 = b.toInt64) ∧ CPL σ2 := by
  obtain ⟨hd, hc, hp⟩ := id h
  have hn := hd.nJl
  have hm := cp_vm hc
  obtain ⟨c1, c8, c15, c17, c22, cq⟩ := id hc
  rcases hq with ⟨rfl, v, τ', ⟨hin, hlk, hne, s1, hs1, hd1, hx, rfl⟩, rfl⟩ | ⟨⟨rfl, rfl, hz⟩, rfl⟩ | ⟨⟨rfl, rfl, hz⟩, rfl⟩ | ⟨⟨rfl, rfl, hz⟩, rfl⟩
  · have k1 := hx.2.1
    have f1 : ∀ c, c ∉ [7, 11, 12, 14, 22, 23, 24, 25, 26, 27] → σ1 c = σ c := fun c hcc => by
      simp only [List.mem_cons, List.not_mem_nil, or_false] at hcc
      rw [k1 c (by simp only [List.mem_cons, List.not_mem_nil, or_false]; omega), hs1 c (by omega)]
      unfold clate
      rw [st2_ne (by omega), st2_ne (by omega)]
    have evm : vm σ1 = vm σ := vm_congr (by rw [f1 29 (by decide)]) (by rw [f1 29 (by decide)]) (by rw [f1 29 (by decide)]) (by rw [f1 29 (by decide)]) (fun c hc => by
      simp only [List.mem_cons, List.not_mem_nil, or_false] at hc
      exact f1 c (by simp only [List.mem_cons, List.not_mem_nil, or_false]; omega))
    have hPM : PLM σ1 := PLM_congr (fun c z1 z2 z3 z4 => by
      by_cases z : c < 29
      · exact Or.inl z
      · exact Or.inr (f1 c (by simp only [List.mem_cons, List.not_mem_nil, or_false]; omega))) (fun i _ _ => by rw [f1 29 (by decide)]) (hp hne).2
    refine ⟨⟨by rw [evm, hm]; exact hd, fun _ => hPM⟩, fun b σ2 τ2 hb => ?_⟩
    have e2910 : σ1 29 10 = σ 8 0 := by rw [f1 29 (by decide), c8]
    have e2918 : σ1 29 18 = σ 22 0 := by rw [f1 29 (by decide), c22]
    unfold Q_Mo_late at hb
    rw [e2910, e2918, evm, hm] at hb
    rcases hb with ⟨z, -⟩ | ⟨-, z, -⟩ | ⟨-, -, z, -⟩ | ⟨-, -, -, hdm, hsr, hb⟩
    · exact absurd hin z
    · exact absurd hlk z
    · exact absurd z hne
    · -- both moved the job alike: the memory in which both plans are made
      have e39 : σ1 39 = σ 11 := by rw [f1 39 (by decide)]; exact (cq (11, 39) (by decide)).symm
      have e40 : σ1 40 = σ 12 := by rw [f1 40 (by decide)]; exact (cq (12, 40) (by decide)).symm
      have ml39 : mlate σ1 a1 a2 39 = upd (σ 11) a1.toNatClampNeg a2 := by
        unfold mlate
        rw [st2_ne (by decide)]
        simp [st2, e39]
      have ml40 : mlate σ1 a1 a2 40 = upd (σ 12) a1.toNatClampNeg (a2 + (σ 12 a1.toNatClampNeg - σ 11 a1.toNatClampNeg)) := by
        unfold mlate
        simp only [st2, if_pos, e39, e40]
        simp
        congr 1
        rw [Int32.sub_eq_add_neg, Int32.sub_eq_add_neg, Int32.add_assoc]
      have s11 : s1 11 = upd (σ 11) a1.toNatClampNeg a2 := by
        rw [hs1 11 (by decide)]; unfold clate; simp [st2]
      have s12 : s1 12 = upd (σ 12) a1.toNatClampNeg (a2 + (σ 12 a1.toNatClampNeg - σ 11 a1.toNatClampNeg)) := by
        rw [hs1 12 (by decide)]; unfold clate; simp [st2]
      have sc : ∀ c, c ∉ [11, 12, 27] → s1 c = σ c := fun c hcc => by
        simp only [List.mem_cons, List.not_mem_nil, or_false] at hcc
        rw [hs1 c (by omega)]; unfold clate; rw [st2_ne (by omega), st2_ne (by omega)]
      -- a start that the reference's cells have moved in, too
      obtain ⟨w0, hw0⟩ : ∃ w0 : MI, w0 = st1 (st1 s1 39 (s1 11)) 40 (s1 12) := ⟨_, rfl⟩
      obtain ⟨w1, hw1⟩ : ∃ w1 : MI, w1 = st1 (st1 σ1 39 (s1 11)) 40 (s1 12) := ⟨_, rfl⟩
      have w0c : ∀ c, c ≠ 39 → c ≠ 40 → w0 c = s1 c := fun c z1 z2 => by rw [hw0, st1_ne z2, st1_ne z1]
      have w1c : ∀ c, c ≠ 39 → c ≠ 40 → w1 c = σ1 c := fun c z1 z2 => by rw [hw1, st1_ne z2, st1_ne z1]
      have w039 : w0 39 = s1 11 := by rw [hw0, st1_ne (by decide)]; simp [st1]
      have w040 : w0 40 = s1 12 := by rw [hw0]; simp [st1]
      have w139 : w1 39 = s1 11 := by rw [hw1, st1_ne (by decide)]; simp [st1]
      have w140 : w1 40 = s1 12 := by rw [hw1]; simp [st1]
      have evw0 : vx w0 = vx s1 := vx_congr (by rw [w0c 1 (by decide) (by decide)]) (by rw [w0c 8 (by decide) (by decide)]) (by rw [w0c 15 (by decide) (by decide)]) (by rw [w0c 17 (by decide) (by decide)]) (fun c hc => w0c c (by intro z; subst z; revert hc; decide) (by intro z; subst z; revert hc; decide))
      have hCw : CPd w0 := by
        refine ⟨?_, ?_, ?_, ?_, ?_, fun q hq => ?_⟩
        · rw [w0c 1 (by decide) (by decide), w0c 29 (by decide) (by decide), sc 1 (by decide), sc 29 (by decide)]; exact c1
        · rw [w0c 8 (by decide) (by decide), w0c 29 (by decide) (by decide), sc 8 (by decide), sc 29 (by decide)]; exact c8
        · rw [w0c 15 (by decide) (by decide), w0c 29 (by decide) (by decide), sc 15 (by decide), sc 29 (by decide)]; exact c15
        · rw [w0c 17 (by decide) (by decide), w0c 29 (by decide) (by decide), sc 17 (by decide), sc 29 (by decide)]; exact c17
        · rw [w0c 22 (by decide) (by decide), w0c 29 (by decide) (by decide), sc 22 (by decide), sc 29 (by decide)]; exact c22
        · by_cases z : q = (11, 39)
          · subst z; show w0 11 = w0 39; rw [w039, w0c 11 (by decide) (by decide)]
          · by_cases y : q = (12, 40)
            · subst y; show w0 12 = w0 40; rw [w040, w0c 12 (by decide) (by decide)]
            · have hr : ∀ q ∈ prs, q ≠ (11, 39) → q ≠ (12, 40) → q.1 ≠ 39 ∧ q.1 ≠ 40 ∧ q.2 ≠ 39 ∧ q.2 ≠ 40 ∧ q.1 ∉ [11, 12, 27] ∧ q.2 ∉ [11, 12, 27] := by decide
              obtain ⟨r1, r2, r3, r4, r5, r6⟩ := hr q hq z y
              rw [w0c _ r1 r2, w0c _ r3 r4, sc _ r5, sc _ r6]
              exact cq q hq
      have hxw : Q_PT_makePlan w0 τ w1 τ' := by
        obtain ⟨x1, x2, x3, x4, x5⟩ := hx
        refine ⟨x1, fun c hcc => ?_, ?_, ?_, PLX_congr (fun c hcl => w1c c (by omega) (by omega)) x5⟩
        · by_cases z1 : c = 39
          · subst z1; rw [w139, w039]
          · by_cases z2 : c = 40
            · subst z2; rw [w140, w040]
            · rw [w1c c z1 z2, w0c c z1 z2]; exact x2 c hcc
        · rw [w1c 7 (by decide) (by decide), w0c 7 (by decide) (by decide), evw0]; exact x3
        · rw [w1c 22 (by decide) (by decide)]; exact x4
      have hb2 : ∀ c, c ≠ 29 → mlate σ1 a1 a2 c = w1 c := fun c z => by
        by_cases z1 : c = 39
        · subst z1; rw [w139, ml39, s11]
        · by_cases z2 : c = 40
          · subst z2; rw [w140, ml40, s12]
          · rw [w1c c z1 z2]
            unfold mlate
            rw [st2_ne z2, st2_ne z1, st2_ne z]
      have hb29 : ∀ i, i ≠ 0 → mlate σ1 a1 a2 29 i = w1 29 i := fun i z => by
        rw [w1c 29 (by decide) (by decide)]
        unfold mlate
        rw [st2_ne (by decide), st2_ne (by decide), st2_at, if_neg (by omega)]
      obtain ⟨-, hsr2⟩ := id hsr
      have hsr' : Q_Mo_search (mlate σ1 a1 a2) τ' σ2 τ' := ⟨rfl, hsr2⟩
      have hd0 : Vd (vx w0) := by rw [evw0]; exact hd1
      obtain ⟨p1, p2, p3, p4, p5, p6, p7, p8⟩ := cp_both hd0 hCw hxw hb2 hb29 hsr'
      have hτ : τ2 = sl2 τ' 28 0 (nI (cnt (fun j => decide (adx σ j ≠ adx σ1 j)) (nJ (vx σ)))).toInt64 := hsr.1.symm
      obtain ⟨q1, -⟩ := cp_plan p2 p3 p4 p5
      obtain ⟨r1, -⟩ := cp_plan hd hm (hp hne).1 (hp hne).2
      have hnJ : nJ (vx σ2) = nJ (vx σ) := by
        rw [p6, evw0]
        unfold nJ
        rw [show vx s1 8 0 = vx σ 8 0 by show (s1 8 0).toInt = (σ 8 0).toInt; rw [sc 8 (by decide)]]
      have hnP : nP (vx σ2) = nP (vx σ) := by
        rw [p6, evw0]
        unfold nP
        rw [show vx s1 1 0 = vx σ 1 0 by show (s1 1 0).toInt = (σ 1 0).toInt; rw [sc 1 (by decide)]]
      refine ⟨?_, fun _ => ?_, p1⟩
      · rw [hsr.2.2.1 0 (by decide) (by decide)]
        unfold mlate
        rw [st2_ne (by decide), st2_ne (by decide), st2_at, if_pos ⟨rfl, rfl⟩]
      · rw [hτ, hb]
        have ecnt : cnt (fun j => decide (adx σ j ≠ adx σ1 j)) (nJ (vx σ)) = cnt (fun j => decide (av σ1 43 j ≠ av σ2 43 j)) (nJ (vx σ)) := by
          refine cnt_congr (fun j hj => ?_)
          have eav : av σ1 43 = av σ 43 := by unfold av; rw [f1 43 (by decide)]
          have a1' := r1 j hj
          have a2' := q1 j (by rw [hnJ]; exact hj)
          have ead : adx σ2 j = adx σ1 j := by rw [p7]; unfold adx; rw [w1c 23 (by decide) (by decide)]
          have g1 := (hp hne).2.1 j (by rw [hm]; exact hj)
          have g2 := p5.1 j (by rw [p3, hnJ]; exact hj)
          have b1' : av σ 43 j ≤ nP (vx σ) := by have := g1.2; rw [hm] at this; exact this
          have b2' : av σ2 43 j ≤ nP (vx σ) := by have := g2.2; rw [p3, hnP] at this; exact this
          have hnp := hd.nPl
          rw [a1', ← ead, a2', eav, decide_eq_decide]
          unfold agm nb
          rw [hm, p3, hnP]
          by_cases z1 : av σ 43 j < nP (vx σ) <;> by_cases z2 : av σ2 43 j < nP (vx σ)
          · rw [if_pos z1, if_pos z2]
          · rw [if_pos z1, if_neg z2]; omega
          · rw [if_neg z1, if_pos z2]; omega
          · rw [if_neg z1, if_neg z2]; omega
        rw [ecnt]
        simp [sl2, vp_updL]
  · have hno : ¬ inP (σ 8 0).toInt a1 := by
      rcases hz with ⟨z, -⟩ | ⟨-, -, z⟩ | ⟨-, -, -, z⟩
      · exact z
      · exact absurd z nIO_IA
      · exact absurd z nIO_IS
    refine ⟨cp_plm h, fun b σ2 τ2 hb => ?_⟩
    unfold Q_Mo_late at hb
    rw [← c8, ← c22, hm] at hb
    rcases hb with ⟨-, rfl, rfl⟩ | ⟨z, -⟩ | ⟨z, -⟩ | ⟨z, -⟩
    · exact ⟨by rw [st2_at, if_pos ⟨rfl, rfl⟩], fun z => absurd z (by decide), CPL_290 h⟩
    · exact absurd z hno
    · exact absurd z hno
    · exact absurd z hno
  · have hno : inP (σ 8 0).toInt a1 ∧ ¬ lok (vx σ) a1 a2 := by
      rcases hz with ⟨-, z⟩ | ⟨z, y, -⟩ | ⟨-, -, -, z⟩
      · exact absurd z nIA_IO
      · exact ⟨z, y⟩
      · exact absurd z nIA_IS
    refine ⟨cp_plm h, fun b σ2 τ2 hb => ?_⟩
    unfold Q_Mo_late at hb
    rw [← c8, ← c22, hm] at hb
    rcases hb with ⟨z, -⟩ | ⟨-, -, rfl, rfl⟩ | ⟨-, z, -⟩ | ⟨-, z, -⟩
    · exact absurd hno.1 z
    · exact ⟨by rw [st2_at, if_pos ⟨rfl, rfl⟩], fun z => absurd z (by decide), CPL_290 h⟩
    · exact absurd z hno.2
    · exact absurd z hno.2
  · have hno : inP (σ 8 0).toInt a1 ∧ lok (vx σ) a1 a2 ∧ σ 22 0 = 0 := by
      rcases hz with ⟨-, z⟩ | ⟨-, -, z⟩ | ⟨z, y, x, -⟩
      · exact absurd z nIS_IO
      · exact absurd z nIS_IA
      · exact ⟨z, y, x⟩
    refine ⟨cp_plm h, fun b σ2 τ2 hb => ?_⟩
    unfold Q_Mo_late at hb
    rw [← c8, ← c22, hm] at hb
    rcases hb with ⟨z, -⟩ | ⟨-, z, -⟩ | ⟨-, -, -, rfl, rfl⟩ | ⟨-, -, z, -⟩
    · exact absurd hno.1 z
    · exact absurd hno.2.1 z
    · exact ⟨by rw [st2_at, if_pos ⟨rfl, rfl⟩], fun z => absurd z (by decide), CPL_290 h⟩
    · exact absurd hno.2.2 z

