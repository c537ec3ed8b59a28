/-! THE CLAIM OUT OF ONE WALK OF THE LAW'S BODY. Your part is whole_start (and what it stands on); all else here is the same for every law, but numbers. -/
def R_law : String := "ChalkCastleLaw"
def lw_P (b : Addr) (xs : List Int32) (args : Array Value) (s : State) : Prop := args = #[.ref b] ∧ s.IntsAt b xs ∧ xs.length ≤ 384 ∧ (Jvm.Cond.and given_1 narrow_1).before args s = true
def lw_Q (_ : Array Value) (s : State) (o : Outcome) (t : State) : Prop := o = .returned (some (.int 1)) ∧ Framed s o t [] 600000 7302250
def lw_Z (below : List Frame) (a : Array Value) (s : State) : State → Prop := fun t => ∃ o, t.status = .running ∧ Ended t below o ∧ lw_Q a s o t
/-- the law's own end, with 1 on the stack, nothing written that was there before, its room as the claim has it -/
theorem lw_ret {p : Program} {l : Launch} {e : Env} {s : State} {m : MethodId} {below : List Frame} {meth : Method} {c : Code} {b : Nat} (hx : p.tables.exec = Jvm.exec) (hb : c.code = code) (hr : meth.sig.returnType = ret) (hlocks : meth.locks = false) {pc : Nat} {H : Heap} {ls : Array Slot} (hdg : decode code pc = .ok (.ireturn, 1)) : W p l e room_1 s m #[Value.ref b] below meth c H [] 600000 7302250 (lw_Z below #[Value.ref b] s) (F0 m pc ls [.int 1]) := by
  intro T hT X
  obtain ⟨fs, hret, hrun, hended, hW, hframe⟩ := X.leave (v := some (.int 1)) (hlocks := hlocks) (fun h => by rw [hr] at h; cases h)
  have hmeth' : T.vm.method? m = some meth := X.method'
  refine ⟨T.setFrames fs, ?_, .returned (some (.int 1)), hrun, hended, rfl, ⟨_, rfl⟩, hW, hframe⟩
  jvm_step X.here [X.here.top, hx, hb, hdg, hmeth', hr, ret, narrow_b1]
  (try refine ⟨rfl, ?_⟩); (try refine ⟨rfl, ?_⟩)
  first | (intro acts; rw [hret _ acts rfl rfl rfl]) | rw [hret _ _ rfl rfl rfl]
  exact Steps.refl _
/-- what holds at the law's entry: the machine, the code, the tables' words (any of lw_tbl by 'hts w (by decide +kernel)'), the script of L ints xs at the cell b, what the Statement gives of the start (any of its parts by flat_of_before) -/
def lw_At (p : Program) (s : State) (m : MethodId) (meth : Method) (c : Code) (b L : Nat) (xs : Nat → Int32) : Prop :=
  p.tables.exec = Jvm.exec ∧ c.code = code ∧ meth.sig.returnType = ret ∧ c.maxLocals = 4 ∧ s.vm.findClass R_law = some m.cls ∧ (∀ w ∈ lw_tbl, w.before #[Value.ref b] s = true) ∧ va_X b L xs s s.heap ∧ b < s.heap.size ∧ meth.locks = false ∧ (Jvm.Cond.and given_1 narrow_1).before #[Value.ref b] s = true
/-! ===== the law, from its entry ===== -/
theorem law_body {Wm : Nx} {b Ln : Nat} {xs : Nat → Int32} (go : GoL Wm) (kn : KnL Wm b Ln xs) (hL : Ln ≤ 384) {h : hp} (z0 : 0 < hz h) (s1 : St0 h 9001 isTo) (s2 : St0 h 9002 szB) (s3 : St0 h 9003 mkB) : Wm 0 [some (.inr (.inr (25, b + 1))), none, none, none] [] h 0 0 := by
  refine go (cut1 8) 20 0 _ _ _ _ _ ?_
  refine And.intro ⟨by decide, by decide⟩ (fun a ha => ?_)
  have ha : hz h ≤ a := ha
  obtain ⟨y, rfl⟩ : ∃ y, a = y + 1 := ⟨a - 1, by omega⟩
  refine And.intro ⟨by decide, by decide⟩ ?_
  refine c_castleInit (d := 17) (Nat.lt_succ_self _) (fun f => if_pos rfl) (fun hc Kc hI => ?_)
  refine go (cut1 18) 20 8 _ _ _ _ _ ?_
  refine And.intro ⟨by decide, by decide⟩ (fun a2 ha2 => ?_)
  have ha2 : hz hc ≤ a2 := ha2
  have hcz : 0 < hz hc := Nat.lt_of_lt_of_le (Nat.succ_pos _) hI.1.1
  obtain ⟨x, rfl⟩ : ∃ x, a2 = x + 1 := ⟨a2 - 1, by omega⟩
  refine And.intro ⟨by decide, by decide⟩ ?_
  refine m_init (d := 19) (Nat.lt_succ_self _) (fun f => if_pos rfl) (fun hm hM => ?_)
  exact law_loop go kn hL 64 0 (by omega) hm _ _ (law_rel z0 ha hI ha2 hM s1 s2 s3) (by decide) (by decide)
theorem arrP {s : State} {A : Array Value} {ty : FieldType} (hw : (Cond.arrayClass ty).before A s = true) (hn : ∀ C, ty ≠ .object C) : ∃ cA, ArrOfT s cA ty ∧ va_RA s cA ty := by
  obtain ⟨cA, k, comp, h1, h2, h3⟩ := Cond.arrayClass_spec hw
  refine ⟨cA, fun n z => ⟨fun k h => (by cases h), k, h2, comp, h3⟩, ?_⟩
  cases ty with
  | object C => exact absurd rfl (hn C)
  | _ => exact h1
theorem arrQ {s : State} {C : String} (hw : va_AO C s) : ∃ cA, ArrOfT s cA (.object C) ∧ va_RA s cA (.object C) := by
  obtain ⟨comp, cA, k, h1, h2, h3, h4, h5⟩ := Cond.arrayOver_spec hw
  exact ⟨cA, fun n z => ⟨fun k h => (by cases h), k, h3, comp, h4⟩, k, comp, h3, h4, h1, h5⟩
/-- what a cell of ints holds -/
def cellI (H : Heap) (a j : Nat) : Int32 := match H[a]? with | some cq => (match cq.slots[j]? with | some (.int v) => v | _ => 0) | none => 0
theorem cellI_T {s : State} {t N : Nat} {g : Nat → Int32} {A : Nat → Prop} (hT : va_T .int t N (fun j => .int (g j)) A s s.heap) {j : Nat} (hj : j < N) : cellI s.heap t j = g j := by
  obtain ⟨cell, q1, q2, q3, q4, q5, q6, q7⟩ := hT
  unfold cellI
  rw [q1]
  dsimp only
  rw [q6 j hj]
theorem cellI_X {s : State} {b L : Nat} {xs : Nat → Int32} (hX : va_X b L xs s s.heap) {j : Nat} (hj : j < L) : cellI s.heap b j = xs j := by
  obtain ⟨cell, q1, q2, q3, q4, q5⟩ := hX
  unfold cellI
  rw [q1]
  dsimp only
  rw [q5 j hj]
theorem len_T {s : State} {b N L : Nat} {f : Nat → Value} {xs : Nat → Int32} {A : Nat → Prop} (hL : L ≤ 384) (hX : va_X b L xs s s.heap) (hT : va_T .int b N f A s s.heap) : N = L := by
  obtain ⟨cell, q1, q2, q3, q4, q5⟩ := hX
  obtain ⟨cell', r1, r2, r3, r4, r5, r6, r7⟩ := hT
  cases q1.symm.trans r1
  rw [q4] at r4 r5
  have e : nI L = nI N := r5
  exact (nIj (by omega) (by omega) e).symm
def hp0 (H : Heap) (b L t1 t2 t3 : Nat) : hp := (fun _ _ => 0, fun f z => if z = 0 then (if f = 9001 then t1 + 1 else if f = 9002 then t2 + 1 else if f = 9003 then t3 + 1 else 0) else 0, fun z j => cellI H (z - 1) j, fun z => if z = b + 1 then L else 6, fun _ _ => 0, H.size + 1)
def K25 (b t1 t2 t3 : Nat) : Nat → Nat := fun a => if a = b ∨ a = t1 ∨ a = t2 ∨ a = t3 then 25 else 0
set_option maxHeartbeats 4000000 in
set_option maxRecDepth 100000 in
/-- THE LAW, from its entry -/
theorem whole_start {p : Program} {e : Env} {s : State} {m : MethodId} {below : List Frame} {meth : Method} {c : Code} (l : Launch) {b L : Nat} {xs : Nat → Int32} (hL : L ≤ 384) (C0 : lw_At p s m meth c b L xs) : W p l e room_1 s m #[Value.ref b] below meth c s.heap [] 0 0 (lw_Z below #[Value.ref b] s) (entryFrame m ([Value.ref b] : List Value).toArray 4) := by
  obtain ⟨hx, hb, hr, hml, hown, hts, hX, hbl, hlocks, hgv⟩ := id C0
  have hg : ∀ w ∈ lw_g, w.before #[Value.ref b] s = true := fun w hw => hts w (List.mem_filter.mp hw).1
  obtain ⟨c0, i0, n0⟩ := u_known (C := RX0) (T := TX0) (N := 6) (n := 6) hg inX0 (hg _ tw_in0)
  obtain ⟨c1, i1, n1⟩ := u_known (C := RX1) (T := TX1) (N := 10) (n := 10) hg inX1 (hg _ tw_in1)
  obtain ⟨c2, i2, n2⟩ := u_known (C := RX2) (T := TX2) (N := 5) (n := 5) hg inX2 (hg _ tw_in2)
  obtain ⟨c3, i3, n3⟩ := u_known (C := RX3) (T := TX3) (N := 3) (n := 3) hg inX3 (hg _ tw_in3)
  obtain ⟨c4, i4, n4⟩ := u_known (C := RX4) (T := TX4) (N := 6) (n := 6) hg inX4 (hg _ tw_in4)
  obtain ⟨c5, i5, n5⟩ := u_known (C := RX5) (T := TX5) (N := 4) (n := 4) hg inX5 (hg _ tw_in5)
  obtain ⟨c6, i6, n6⟩ := u_known (C := RX6) (T := TX6) (N := 14) (n := 14) hg inX6 (hg _ tw_in6)
  obtain ⟨c7, i7, n7⟩ := u_known (C := RX7) (T := TX7) (N := 39) (n := 39) hg inX7 (hg _ tw_in7)
  obtain ⟨dC, dI, hKc⟩ : ∃ (dC : Nat → ClassId) (dI : Nat → Nat → Nat), ∀ (k : Nat) (q : vw_C), vwCl[k]? = some q → u_Kn s q.1 q.2.1 q.2.2 (dC k) (dI k) := by
    refine ⟨fun k => [c0, c1, c2, c3, c4, c5, c6, c7].getD k c0, fun k => [i0, i1, i2, i3, i4, i5, i6, i7].getD k i0, ?_⟩
    intro k q hq
    match k, hq with
    | 0, hq => cases hq; exact n0
    | 1, hq => cases hq; exact n1
    | 2, hq => cases hq; exact n2
    | 3, hq => cases hq; exact n3
    | 4, hq => cases hq; exact n4
    | 5, hq => cases hq; exact n5
    | 6, hq => cases hq; exact n6
    | 7, hq => cases hq; exact n7
    | k + 8, hq => simp [vwCl] at hq
  have o1 : va_AO RX1 s := hts (.arrayOver (.object RX1)) (by decide +kernel)
  have o3 : va_AO RX3 s := hts (.arrayOver (.object RX3)) (by decide +kernel)
  have o5 : va_AO RX5 s := hts (.arrayOver (.object RX5)) (by decide +kernel)
  have hnw : Nw5 s := ⟨o1, o3, o5, fun q hq => va_Nw.of rfl (hts _ ((by decide +kernel : ∀ q ∈ nests, Cond.methodLinkNest q.1 q.2.1 q.2.2 "ChalkCastle" ∈ lw_tbl) q hq))⟩
  obtain ⟨g0, u0, r0⟩ := arrP (hg _ tw_aI) (fun C h => by cases h)
  obtain ⟨g1, u1, r1⟩ := arrP (hg _ tw_aZ) (fun C h => by cases h)
  obtain ⟨g2, u2, r2⟩ := arrQ o1
  obtain ⟨g3, u3, r3⟩ := arrQ o3
  obtain ⟨g4, u4, r4⟩ := arrQ o5
  obtain ⟨G, eG, e0, e1, e2, e3, e4, eA⟩ : ∃ G : Gh, G.1 = (dC, dI) ∧ G.2.1 0 = g0 ∧ G.2.1 1 = g1 ∧ G.2.1 2 = g2 ∧ G.2.1 3 = g3 ∧ G.2.1 4 = g4 ∧ G.2.2 = s.heap.size := ⟨((dC, dI), fun k => [g0, g1, g2, g3, g4].getD k g0, s.heap.size), rfl, rfl, rfl, rfl, rfl, rfl, rfl⟩
  have hAn : ∀ a : Nat, a < s.heap.size → ¬ gA G a := fun a ha q => by
    have q : G.2.2 ≤ a := q
    omega
  have hK : va_K G.1 vwCl (gty G) s := by
    rw [eG]
    refine ⟨hKc, fun k q hq => ?_⟩
    unfold gty at hq
    rw [e0, e1, e2, e3, e4] at hq
    match k, hq with
    | 0, hq => cases hq; exact ⟨u0, r0⟩
    | 1, hq => cases hq; exact ⟨u1, r1⟩
    | 2, hq => cases hq; exact ⟨u2, r2⟩
    | 3, hq => cases hq; exact ⟨u3, r3⟩
    | 4, hq => cases hq; exact ⟨u4, r4⟩
    | k + 5, hq => simp at hq
  have hs := flat_of_before _ hgv
  obtain ⟨t1, et1, hT1⟩ : ∃ t : Nat, (Term.static "ChalkCastle" "IS_TOO" "[I").eval #[Value.ref b] s none [] s = some (.ref t) ∧ va_T .int t 6 (fun j => .int (isTo j)) (gA G) s s.heap := by
    refine va_Tof (by decide) (hs _ (by decide +kernel)) (va_eqt (z := 6) (hs _ (by decide +kernel))) (fun j hj => ?_) hAn
    match j, hj with
    | 0, _ => exact va_eqt (z := 1) (hs _ (by decide +kernel))
    | 1, _ => exact va_eqt (z := 3) (hs _ (by decide +kernel))
    | 2, _ => exact va_eqt (z := 7) (hs _ (by decide +kernel))
    | 3, _ => exact va_eqt (z := 11) (hs _ (by decide +kernel))
    | 4, _ => exact va_eqt (z := 17) (hs _ (by decide +kernel))
    | 5, _ => exact va_eqt (z := 49) (hs _ (by decide +kernel))
  obtain ⟨t2, et2, hT2⟩ : ∃ t : Nat, (Term.static "ChalkCastle" "SIZE_BODIES" "[I").eval #[Value.ref b] s none [] s = some (.ref t) ∧ va_T .int t 6 (fun j => .int (szB j)) (gA G) s s.heap := by
    refine va_Tof (by decide) (hs _ (by decide +kernel)) (va_eqt (z := 6) (hs _ (by decide +kernel))) (fun j hj => ?_) hAn
    match j, hj with
    | 0, _ => exact va_eqt (z := 10) (hs _ (by decide +kernel))
    | 1, _ => exact va_eqt (z := 11) (hs _ (by decide +kernel))
    | 2, _ => exact va_eqt (z := 12) (hs _ (by decide +kernel))
    | 3, _ => exact va_eqt (z := 11) (hs _ (by decide +kernel))
    | 4, _ => exact va_eqt (z := 13) (hs _ (by decide +kernel))
    | 5, _ => exact va_eqt (z := 14) (hs _ (by decide +kernel))
  obtain ⟨t3, et3, hT3⟩ : ∃ t : Nat, (Term.static "ChalkCastle" "MARK_BODIES" "[I").eval #[Value.ref b] s none [] s = some (.ref t) ∧ va_T .int t 6 (fun j => .int (mkB j)) (gA G) s s.heap := by
    refine va_Tof (by decide) (hs _ (by decide +kernel)) (va_eqt (z := 6) (hs _ (by decide +kernel))) (fun j hj => ?_) hAn
    match j, hj with
    | 0, _ => exact va_eqt (z := 20) (hs _ (by decide +kernel))
    | 1, _ => exact va_eqt (z := 21) (hs _ (by decide +kernel))
    | 2, _ => exact va_eqt (z := 24) (hs _ (by decide +kernel))
    | 3, _ => exact va_eqt (z := 22) (hs _ (by decide +kernel))
    | 4, _ => exact va_eqt (z := 23) (hs _ (by decide +kernel))
    | 5, _ => exact va_eqt (z := 23) (hs _ (by decide +kernel))
  have hini := hts (.initialized "ChalkCastle") (by decide +kernel)
  have hZ1 := va_Zof (hts (.laysStatic "ChalkCastle" "IS_TOO" "[I") (by decide +kernel)) hini et1 hAn
  have hZ2 := va_Zof (hts (.laysStatic "ChalkCastle" "SIZE_BODIES" "[I") (by decide +kernel)) hini et2 hAn
  have hZ3 := va_Zof (hts (.laysStatic "ChalkCastle" "MARK_BODIES" "[I") (by decide +kernel)) hini et3 hAn
  have ltT : ∀ {t : Nat} {f : Nat → Value}, va_T .int t 6 f (gA G) s s.heap → t < s.heap.size := fun h => by
    obtain ⟨cell, q1, -⟩ := h
    exact (Array.getElem?_eq_some_iff.mp q1).1
  have l1 := ltT hT1
  have l2 := ltT hT2
  have l3 := ltT hT3
  obtain ⟨h0, eh0⟩ : ∃ h0 : hp, h0 = hp0 s.heap b L t1 t2 t3 := ⟨_, rfl⟩
  obtain ⟨K0, eK0⟩ : ∃ K0 : Nat → Nat, K0 = K25 b t1 t2 t3 := ⟨_, rfl⟩
  have hz0 : hz h0 = s.heap.size + 1 := by rw [eh0]; rfl
  have haL0 : ∀ a, haL h0 (a + 1) = if a = b then L else 6 := fun a => by
    rw [eh0]
    show (if a + 1 = b + 1 then L else 6) = _
    by_cases q : a = b
    · rw [if_pos q, if_pos (by omega)]
    · rw [if_neg q, if_neg (by omega)]
  have haI0 : ∀ a j, haI h0 (a + 1) j = cellI s.heap a j := fun a j => by rw [eh0]; rfl
  have k0 : ∀ a, K0 a = 25 ∨ K0 a = 0 := fun a => by
    rw [eK0]
    unfold K25
    by_cases q : a = b ∨ a = t1 ∨ a = t2 ∨ a = t3
    · rw [if_pos q]; exact Or.inl rfl
    · rw [if_neg q]; exact Or.inr rfl
  have k1 : ∀ a, K0 a = 25 → a = b ∨ a = t1 ∨ a = t2 ∨ a = t3 := fun a h => by
    rw [eK0] at h
    unfold K25 at h
    by_cases q : a = b ∨ a = t1 ∨ a = t2 ∨ a = t3
    · exact q
    · rw [if_neg q] at h; omega
  have k2 : ∀ a, (a = b ∨ a = t1 ∨ a = t2 ∨ a = t3) → K0 a = 25 := fun a q => by
    rw [eK0]
    unfold K25
    rw [if_pos q]
  have kt : ∀ {t : Nat} {g : Nat → Int32}, va_T .int t 6 (fun j => .int (g j)) (gA G) s s.heap → haL h0 (t + 1) = 6 ∧ ∀ j, j < 6 → haI h0 (t + 1) j = g j := fun {t g} hT => by
    refine ⟨?_, fun j hj => by rw [haI0]; exact cellI_T hT hj⟩
    rw [haL0]
    by_cases q : t = b
    · subst q
      rw [if_pos rfl]
      exact (len_T hL hX hT).symm
    · rw [if_neg q]
  have kT : ∀ {t : Nat} {g : Nat → Int32}, va_T .int t 6 (fun j => .int (g j)) (gA G) s s.heap → va_T .int t (haL h0 (t + 1)) (fun j => .int (haI h0 (t + 1) j)) (gA G) s s.heap := fun {t g} hT => by
    obtain ⟨w1, w2⟩ := kt hT
    rw [w1]
    obtain ⟨cell, q1, q2, q3, q4, q5, q6, q7⟩ := hT
    exact ⟨cell, q1, q2, q3, q4, q5, fun j hj => by dsimp only; rw [w2 j hj]; exact q6 j hj, q7⟩
  have hX25 : va_T .int b (haL h0 (b + 1)) (fun j => .int (haI h0 (b + 1) j)) (gA G) s s.heap := by
    have w1 : haL h0 (b + 1) = L := by rw [haL0, if_pos rfl]
    rw [w1]
    have w2 : ∀ j, j < L → haI h0 (b + 1) j = xs j := fun j hj => by rw [haI0]; exact cellI_X hX hj
    obtain ⟨cell, q1, q2, q3, q4, q5⟩ := id hX
    exact ⟨cell, q1, q2, q3, by omega, by rw [q4], fun j hj => by dsimp only; rw [w2 j hj]; exact q5 j hj, hAn b hbl⟩
  have hB : HB G K0 [] h0 s s.heap s.heap := by
    refine ⟨hK, fun k q h => ?_, ⟨fun i j p q h => ?_, fun k q h => ?_⟩, ⟨by omega, by omega, fun a ha => ?_⟩, fun a => ⟨fun h => ?_, fun h => ?_⟩, ⟨fun a ci k h => ?_, fun a j h => ?_, fun a j h => ?_, fun a j h => ?_⟩, ⟨fun a ha => ?_, ⟨t1, by rw [eh0]; rfl, k2 _ (Or.inr (Or.inl rfl)), hZ1⟩, ⟨t2, by rw [eh0]; rfl, k2 _ (Or.inr (Or.inr (Or.inl rfl))), hZ2⟩, ⟨t3, by rw [eh0]; rfl, k2 _ (Or.inr (Or.inr (Or.inr rfl))), hZ3⟩⟩, hnw⟩
    · exact absurd h (by simp [va_pl])
    · exact absurd h (by simp [va_pl])
    · exact absurd h (by simp [va_pl])
    · rcases k0 a with q | q
      · rcases k1 a q with rfl | rfl | rfl | rfl <;> omega
      · exact absurd q ha
    · cases h
    · rcases k0 a with q | q
      · exact absurd q h.2
      · exact absurd q h.1
    · intro hne
      rcases k0 a with q | q
      · have : ci = 24 := by omega
        subst this
        exact absurd rfl hne
      · omega
    · rcases k0 a with q | q <;> omega
    · rcases k0 a with q | q <;> omega
    · rcases k0 a with q | q <;> omega
    · rcases k1 a ha with rfl | rfl | rfl | rfl
      · exact hX25
      · exact kT hT1
      · exact kT hT2
      · exact kT hT3
  have C : CX p l e room_1 s m #[Value.ref b] below meth c G K0 RL cL_law 4 (some .boolean) false 21 600000 7302250 kkL (lw_Z below #[Value.ref b] s) := by
    refine ⟨hx, hb, hml, hown, hg, ⟨by decide, by decide, by decide, by decide⟩, fun h => (by cases h), ?_⟩
    intro v h cu su hk h1 h2 hrt K Ls H locs ls pc hB' hS hE hok hd
    have hk : v = some (.inl 1) := hk
    subst hk
    refine W.widen (k := 600000) (n := 7302250) h1 h2 ?_
    refine va_forget (fun q hq => ?_) (lw_ret hx hb hr hlocks hd)
    have := hS.2.2 q hq
    have this : G.2.2 ≤ q.base := this
    omega
  have go : GoL (WM p l e room_1 s m #[Value.ref b] below meth c G K0 4 600000 7302250 (lw_Z below #[Value.ref b] s)) := fun cut n pc L S h cu su hh => T_L_law pc p l e room_1 s m _ below meth c G K0 21 600000 7302250 kkL _ C _ (blk_ok T_L_law C cut n) L S h cu su hh
  have kn : KnL (WM p l e room_1 s m #[Value.ref b] below meth c G K0 4 600000 7302250 (lw_Z below #[Value.ref b] s)) b L xs := by
    intro pc Lo' S h cu su hl0 hw a1 a2 K Ls H locs ls b1 b2 b3 b4 b5
    refine hw ?_ a1 a2 K Ls H locs ls b1 b2 b3 b4 b5
    have hkb : K b = 25 := ((b4.2.2.2 0 _ hl0).2 b rfl).1
    have hT := b1.2.2.2.2.2.2.1.1 b hkb
    have eL := len_T hL hX hT
    refine ⟨eL, fun j hj => ?_⟩
    rw [eL] at hT
    rw [← cellI_X hX hj]
    exact (cellI_T (g := fun j => haI h (b + 1) j) hT hj).symm
  have key := law_body go kn hL (h := h0) (by omega) ⟨⟨by rw [eh0]; exact Nat.succ_ne_zero t1, by rw [hz0, eh0]; exact Nat.succ_lt_succ l1⟩, by rw [eh0]; rw [eh0] at kt; exact (kt hT1).1, by rw [eh0]; rw [eh0] at kt; exact (kt hT1).2⟩ ⟨⟨by rw [eh0]; exact Nat.succ_ne_zero t2, by rw [hz0, eh0]; exact Nat.succ_lt_succ l2⟩, by rw [eh0]; rw [eh0] at kt; exact (kt hT2).1, by rw [eh0]; rw [eh0] at kt; exact (kt hT2).2⟩ ⟨⟨by rw [eh0]; exact Nat.succ_ne_zero t3, by rw [hz0, eh0]; exact Nat.succ_lt_succ l3⟩, by rw [eh0]; rw [eh0] at kt; exact (kt hT3).1, by rw [eh0]; rw [eh0] at kt; exact (kt hT3).2⟩
  have hl := lv_entry ([.ref b]) (n := 4) (Nat.le_of_ble_eq_true rfl)
  rw [lg_entry_eq]
  refine key (Nat.zero_le _) (Nat.zero_le _) K0 [] s.heap [] _ hB va_S.rf (Ext.rf K0) ⟨hl.1, hl.2.1, rfl, fun i v hi => ?_⟩ (fun v hv => by cases hv)
  match i, hi with
  | 0, hi =>
    cases hi
    refine ⟨hl.2.2 (0, .ref b) (List.mem_cons_self), fun b' hb' => ?_⟩
    have hb' : b + 1 = b' + 1 := hb'
    have : b' = b := by omega
    subst this
    exact ⟨k2 _ (Or.inl rfl), by decide⟩
  | 1, hi => cases hi
  | 2, hi => cases hi
  | 3, hi => cases hi
  | k + 4, hi => cases hi
set_option maxHeartbeats 4000000 in
theorem lw_walk (l : Launch) (b : Addr) (xs : List Int32) : MetFree l x (headSpec (Jvm.Cond.code x code maxLocals ret :: tables_1) room_1) (lw_P b xs) (fun _ _ _ _ _ => True) lw_Q := by
  refine MetFree.of_bodyS (code := code) (maxLocals := maxLocals) (ret := ret) (by decide) ?_ ?_
  · intro args s m h hn
    obtain ⟨meth, c, h1, h2, h3, h4, h5, h6, -, -⟩ := Cond.code_spec hn (atoms_spec (ws := Jvm.Cond.code x code maxLocals ret :: tables_1) h _ List.mem_cons_self)
    exact ⟨meth, c, h1, h2, h3, h4, h5, h6⟩
  · intro p e s m args below meth c s₁ B hml0 hP _
    obtain ⟨rfl, hx, hbd, hgv⟩ := hP
    obtain ⟨scr, harrAt, hlist, hof, hsmall⟩ := hx
    obtain ⟨hcb, hkn, -, -⟩ := State.arrayAt?_spec harrAt
    have hown : s.vm.findClass R_law = some m.cls := findClass_of_methodNamed B.named
    have hts0 : ∀ c ∈ (Jvm.Cond.code x code maxLocals ret :: tables_1), c.before #[Value.ref b] s = true := atoms_spec (ws := Jvm.Cond.code x code maxLocals ret :: tables_1) B.pre
    have hts : ∀ w ∈ lw_tbl, w.before #[Value.ref b] s = true := k2_hts_sels lw_privs (fun w hw => hts0 w (List.mem_cons_of_mem _ hw)) lw_privs_ok
    have hml : c.maxLocals = 4 := B.maxLocals_eq (hts0 _ List.mem_cons_self)
    have X₀ : Stand p l e room_1 s m #[Value.ref b] below meth c s₁ [] 0 0 := Stand.of_body B
    have hh0 : s₁.heap = s.heap := by rw [B.state]; rfl
    have hsz : scr.slots.size = xs.length := by rw [← Array.length_toList, hlist, List.length_map]
    have hval : ∀ j : Nat, j < xs.length → scr.slots[j]? = some (.int (xs.getD j 0)) := fun j hj => by
      rw [← Array.getElem?_toList, hlist]
      simp [hj]
    have hbl : b < s.heap.size := (Array.getElem?_eq_some_iff.mp hcb).1
    have hX : va_X b xs.length (fun j => xs.getD j 0) s s.heap := ⟨scr, hcb, hof, hkn, hsz, hval⟩
    have K : W p l e room_1 s m #[Value.ref b] below meth c s₁.heap [] 0 0 (lw_Z below #[Value.ref b] s) (entryFrame m ([Value.ref b] : List Value).toArray 4) := by
      rw [hh0]
      exact whole_start l hbd ⟨B.exec, B.bytes, B.returns, hml, hown, hts, hX, hbl, B.notSynchronized, hgv⟩
    obtain ⟨t, a1, o, b1, b2, b3⟩ := K s₁ rfl X₀
    exact ⟨t, o, a1, b1, b2, b3⟩
theorem lw_pre_spec {args : Array Value} {s : State} (h : (Jvm.Cond.and given_1 narrow_1).before args s = true) (hr : rest_1_c.before args s = true) : ∃ (b : Addr) (xs : List Int32), lw_P b xs args s := by
  have hs := flat_of_before _ h
  have hq := flat_of_before _ hr
  have hc : (Cond.count 1).before args s = true := hs _ (by decide +kernel)
  have harr : (Cond.arrayOf (.arg 0) .int).before args s = true := hs _ (by decide +kernel)
  have hle : (Cond.le (.length (.arg 0)) (.int 384)).before args s = true := hs _ (by decide +kernel)
  have hlen : (Cond.isInt (.length (.arg 0))).before args s = true := hq _ (by decide +kernel)
  have hall : (Cond.all (.arg 0) (.isInt (.elem (.arg 0) (.index 0)))).before args s = true := hq _ (by decide +kernel)
  obtain ⟨b, xs, hb, hx⟩ := State.ints_of_pre rfl harr hlen hall
  have hsm : xs.length < 2 ^ 31 := hx.choose_spec.2.2.2
  have hev : (Term.length (.arg 0)).eval args s none [] s = some (.int xs.length.toInt32) := hx.length_eval hb
  have hv := Cond.le_ints hev (show (Term.int 384).eval args s none [] s = some (.int 384) from rfl)
  have hd : xs.length.toInt32 ≤ 384 := by
    simpa [Cond.before, Cond.holds, hv] using hle
  have hN : xs.length ≤ 384 := (Int32.ofNat_le_ofNat hsm (by decide)).mp (show Int32.ofNat xs.length ≤ Int32.ofNat 384 from hd)
  exact ⟨b, xs, Cond.one_arg hc (show args[0]? = some (.ref b) from hb), hx, hN, h⟩
theorem lw_comes (l : Launch) : Comes l x (Jvm.Cond.code x code maxLocals ret :: tables_1) room_1 (fun tb e args s => Calls_1 tb e args s ∧ rest_1 tb e args s ∧ Pre_1 tb e args s)
    (fun _ _ args s o t => lw_Q args s o t) := by
  intro p e ha hc hk s m args below hf hfit hheap happ hpre
  obtain ⟨b, xs, hP⟩ := lw_pre_spec hpre.2.2 hpre.2.1
  obtain ⟨k, o, h1, h2, h3, hQ⟩ := lw_walk l b xs p e ha hc hk s m args below hf ((Spec.applies_iff_loose hf).mp happ).1 hP trivial
  exact ⟨k, o, h1, h2, h3, hQ⟩
theorem lw_frame {s t : State} {o : Outcome} {args : Array Value} (h : Framed s o t [] 600000 7302250) :
    Framed s o t (fieldLocs frame_1_writes args s ++ arrayLocs frame_1_arrays args s ++ staticLocs frame_1_statics s) 600000 7302250 := h
theorem lw_limb (L : Cond) (hL : ∀ (args : Array Value) (s t : State), L.after args s (.returned (some (.int 1))) t = true) :
    ArmFor flags0 classFile x code maxLocals ret World_1 tables_1 room_1 Calls_1 rest_1 Pre_1
      (fun tb e a s o t => postC L tb e a s o t ∧ Framed s o t (fieldLocs frame_1_writes a s ++ arrayLocs frame_1_arrays a s ++ staticLocs frame_1_statics s) 600000 7302250) := by
  intro l _ _ _ p e ha hc hk s m args below hf hfit hheap happ hpre
  obtain ⟨k, o, h1, h2, h3, rfl, hF⟩ := lw_comes l p e ha hc hk s m args below hf hfit hheap happ hpre
  exact ⟨k, _, h1, h2, h3, hL args s _, lw_frame hF⟩
theorem i_vc : Claimed_1_1 ∧ Claimed_1_2 := ⟨lw_limb limb_1_1 (fun args s t => by simp [limb_1_1, Cond.after, Cond.holds, Cond.value]), lw_limb limb_1_2 (fun args s t => Cond.after_iff.mpr (by
  first | (rw [show limb_1_2 = Cond.eq .result (.int 1) from rfl, Cond.eq_ints (x := 1) (y := 1) rfl rfl]; simp; done) | (simp [limb_1_2, Cond.value, Term.eval]; done)))⟩
