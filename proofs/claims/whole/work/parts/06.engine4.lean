/-! ===== ENGINE: heaps ===== -/
theorem hb_at {G : Gh} {K : Nat → Nat} {Ls : List Nat} {h : hp} {U : State} {H H0 : Heap} (hB : HB G K Ls h U H H0) {a : Nat} (h1 : K a ≠ 0) (h2 : K a ≠ 25) : ∃ q : Nat, (va_pl Ls (Fh G K h))[q]? = some (a, Fh G K h a) := va_pl_get (X := []) ((hB.2.2.2.2.1 a).mpr ⟨h1, h2⟩)
theorem hb_in {G : Gh} {K : Nat → Nat} {Ls : List Nat} {h : hp} {U : State} {H H0 : Heap} (hB : HB G K Ls h U H H0) {a : Nat} (h1 : K a ≠ 0) (h2 : K a ≠ 25) : a ∈ Ls := (hB.2.2.2.2.1 a).mpr ⟨h1, h2⟩
theorem Fh_obj {G : Gh} {K : Nat → Nat} {h : hp} {a ci : Nat} (hk : K a = ci + 1) (hc : ci < 8) : Fh G K h a = .inr (ci, fls h (a + 1) ci) := by
  unfold Fh Fk
  rw [hk, if_neg (by omega), if_neg (by omega), if_neg (by omega), if_neg (by omega), if_neg (by omega)]
  rfl
theorem Fh_20 {G : Gh} {K : Nat → Nat} {h : hp} {a : Nat} (hk : K a = 20) : Fh G K h a = .inl (G.2.1 0, haL h (a + 1), .inl (haI h (a + 1))) := by
  unfold Fh Fk
  rw [hk]; rfl
theorem Fh_21 {G : Gh} {K : Nat → Nat} {h : hp} {a : Nat} (hk : K a = 21) : Fh G K h a = .inl (G.2.1 1, haL h (a + 1), .inl (haI h (a + 1))) := by
  unfold Fh Fk
  rw [hk]; rfl
theorem Fh_22 {G : Gh} {K : Nat → Nat} {h : hp} {a : Nat} (hk : K a = 22) : Fh G K h a = .inl (G.2.1 2, haL h (a + 1), .inr (.inr (.inr (.inr (fun j => dr (haR h (a + 1) j)))))) := by
  unfold Fh Fk
  rw [hk]; rfl
theorem Fh_23 {G : Gh} {K : Nat → Nat} {h : hp} {a : Nat} (hk : K a = 23) : Fh G K h a = .inl (G.2.1 3, haL h (a + 1), .inr (.inr (.inr (.inr (fun j => dr (haR h (a + 1) j)))))) := by
  unfold Fh Fk
  rw [hk]; rfl
theorem Fh_24 {G : Gh} {K : Nat → Nat} {h : hp} {a : Nat} (hk : K a = 24) : Fh G K h a = .inl (G.2.1 4, haL h (a + 1), .inr (.inr (.inr (.inr (fun j => dr (haR h (a + 1) j)))))) := by
  unfold Fh Fk
  rw [hk]; rfl
theorem fls_get {h : hp} {x ci k : Nat} (hk : k < nF ci) : (fls h x ci)[k]? = some (fval h x ci k) := by
  unfold fls
  rw [List.getElem?_map, List.getElem?_range hk]
  rfl
theorem fls_len (h : hp) (x ci : Nat) : (fls h x ci).length = nF ci := by simp [fls]
theorem fls_set {h h' : hp} {x ci k : Nat} {v : Value} (hk : k < nF ci) (h1 : fval h' x ci k = v) (h2 : ∀ j, j ≠ k → fval h' x ci j = fval h x ci j) : (fls h x ci).set k v = fls h' x ci := by
  apply List.ext_getElem?
  intro j
  by_cases hj : j < nF ci
  · rw [fls_get hj]
    by_cases e : j = k
    · subst e
      rw [List.getElem?_set_self (by rw [fls_len]; exact hk), h1]
    · rw [List.getElem?_set_ne (Ne.symm e), fls_get hj, h2 j e]
  · rw [List.getElem?_eq_none (by rw [List.length_set, fls_len]; omega), List.getElem?_eq_none (by rw [fls_len]; omega)]
theorem fls_congr {h h' : hp} {x ci : Nat} (h2 : ∀ j, fval h' x ci j = fval h x ci j) : fls h x ci = fls h' x ci := by
  unfold fls
  apply List.map_congr_left
  intro j _
  exact (h2 j).symm
/-- cells but one stay as they are -/
theorem Fk_congr {G : Gh} {h h' : hp} {a k : Nat} (h1 : haL h' (a + 1) = haL h (a + 1)) (h2 : haI h' (a + 1) = haI h (a + 1)) (h3 : haR h' (a + 1) = haR h (a + 1)) (h4 : ∀ ci j, fval h' (a + 1) ci j = fval h (a + 1) ci j) : Fk G h' a k = Fk G h a k := by
  unfold Fk
  rw [h1, h2, h3, fls_congr (h := h') (h' := h) (fun j => (h4 (k - 1) j).symm)]
theorem Fh_up {G : Gh} {K : Nat → Nat} {h h' : hp} {a : Nat} {e : va_E} (he : Fk G h' a (K a) = e) (ho : ∀ b, b ≠ a → K b ≠ 0 → Fk G h' b (K b) = Fk G h b (K b)) : ∀ b, K b ≠ 0 → va_up (Fh G K h) a e b = Fh G K h' b := by
  intro b hb
  by_cases q : b = a
  · subst q
    rw [va_up_self]
    exact he.symm
  · rw [va_up_ne _ _ q]
    exact (ho b q hb).symm
theorem pl_congr {L : List Nat} {f g : Nat → va_E} (h : ∀ a ∈ L, f a = g a) : va_pl L f = va_pl L g := by
  unfold va_pl
  apply List.map_congr_left
  intro a ha
  rw [h a ha]
theorem vS_trans {A : Nat → Prop} {H0 H H1 : Heap} {locs locs1 : List Loc} (h : va_S A H0 H locs) (h' : va_S A H H1 locs1) : va_S A H0 H1 locs1 := ⟨Nat.le_trans h.1 h'.1, fun q g1 g2 => (h'.2.1 q (Nat.lt_of_lt_of_le g1 h.1) g2).trans (h.2.1 q g1 g2), h'.2.2⟩
theorem vS_here {A : Nat → Prop} {H0 H : Heap} {locs : List Loc} (h : va_S A H0 H locs) : va_S A H H locs := ⟨Nat.le_refl _, fun _ _ _ => rfl, h.2.2⟩
/-- a write: the heap behind it -/
theorem hb_wr {G : Gh} {K : Nat → Nat} {Ls : List Nat} {h h' : hp} {U : State} {H H1 H0 : Heap} {a q : Nat} {e : va_E} {locs1 : List Loc} (hB : HB G K Ls h U H H0) (ha : K a ≠ 0) (ha2 : K a ≠ 25) (hq : (va_pl Ls (Fh G K h))[q]? = some (a, Fh G K h a))
    (hP : va_P G.1 vwCl ((va_pl Ls (Fh G K h)).set q (a, e)) H1) (hD : va_D (gA G) ((va_pl Ls (Fh G K h)).set q (a, e))) (hS : va_S (gA G) H H1 locs1) (he : Fk G h' a (K a) = e) (ho : ∀ b, b ≠ a → K b ≠ 0 → Fk G h' b (K b) = Fk G h b (K b)) (hz' : hz h' = hz h) (hT : Ty K h') (hX : Sx G K h' U H0) : HB G K Ls h' U H1 H0 := by
  obtain ⟨b1, b2, b3, b4, b5, b6, b7, b8⟩ := hB
  have e1 : (va_pl Ls (Fh G K h)).set q (a, e) = va_pl Ls (Fh G K h') := by
    have := va_pl_set (X := []) (A := gA G) (e := e) b3 ((b5 a).mpr ⟨ha, ha2⟩) hq
    rw [List.nil_append, List.nil_append] at this
    rw [this]
    exact pl_congr (fun b hb => Fh_up he ho b ((b5 b).mp hb).1)
  rw [e1] at hP hD
  exact ⟨b1, hP, hD, ⟨by rw [hz']; have := hS.1; omega, b4.2.1, fun a ha => by rw [hz']; exact b4.2.2 a ha⟩, b5, hT, hX, b8⟩
theorem up2_s {α : Type} (g : Nat → Nat → α) (f x : Nat) (v : α) : up2 g f x v f x = v := by simp [up2]
theorem up2_x {α : Type} (g : Nat → Nat → α) {f x f' x' : Nat} (v : α) (h : x' ≠ x) : up2 g f x v f' x' = g f' x' := by simp [up2, h]
theorem up2_f {α : Type} (g : Nat → Nat → α) {f x f' x' : Nat} (v : α) (h : f' ≠ f) : up2 g f x v f' x' = g f' x' := by simp [up2, h]
theorem nar_ref {ty : FieldType} (ht : (∃ C, ty = .object C) ∨ ∃ t, ty = .array t) (x : Nat) : narrow ty (rv x) = rv x ∧ fits ty (rv x) = true := by
  rcases ht with ⟨C, rfl⟩ | ⟨t, rfl⟩ <;> cases x <;> exact ⟨rfl, rfl⟩
section K2
variable {own : String} {cc : ByteArray} {nL : Nat} {rt : Option FieldType} {ini : Bool} {pc : Nat}
theorem k_gi {Cn : String} {T : u_T} {N : Nat} (hin : ∀ w ∈ u_ws Cn T N, w ∈ lw_g) {ci k x : Nat} (hd : decode cc pc = .ok (.getfield x, 3)) (hc : vwCl[ci]? = some (Cn, T, N)) (hk : k < N ∧ k < nF ci ∧ ci < 8) (hf : frt ci k = 0) (hw : Cond.fieldLink own x (T k).1 (T k).2.1 (T k).2.2.1 ∈ lw_g) : SOK own cc nL rt ini pc (s_gi (pc + 3) (ci + 1) (100 * ci + k)) := by
  intro p l e R s m args below meth c G K0 d mc ms kk Q C nx hn L S h cu su st h1 h2 K Ls H locs ls hB hS hE hl hs
  unfold s_gi at st
  split at st
  · next t y S' =>
    obtain ⟨hy, hs2⟩ := List.forall_mem_cons.mp hs
    cases ht : Nat.beq t (ci + 1) with
    | false => rw [ht] at st; exact st.elim
    | true =>
      rw [ht] at st
      have e := Nat.eq_of_beq_eq_true ht
      subst e
      cases y with
      | zero => exact (st : False).elim
      | succ a =>
        have hka : K a = ci + 1 := (hy a rfl).1
        obtain ⟨q, hq⟩ := hb_at hB (a := a) (by omega) (by omega)
        rw [Fh_obj hka hk.2.2] at hq
        refine va_get (D := G.1) C.1 C.2.1 C.2.2.2.2.1 hin C.2.2.2.1 hB.1 hB.2.1 q hq hc k hk.1 (C.2.2.2.2.1 _ hw) (fun _ z => z) (fls_get hk.2.1) hd ?_
        rw [show fval h (a + 1) ci k = .int (hfI h (100 * ci + k) (a + 1)) by unfold fval; rw [if_pos hf]]
        exact hn _ _ _ _ _ _ (st : nx _ _ _ _ _ _) h1 h2 K Ls H locs ls hB hS hE hl (List.forall_mem_cons.mpr ⟨trivial, hs2⟩)
  · exact st.elim
theorem k_gr {Cn : String} {T : u_T} {N : Nat} (hin : ∀ w ∈ u_ws Cn T N, w ∈ lw_g) {ci k x r : Nat} (hd : decode cc pc = .ok (.getfield x, 3)) (hc : vwCl[ci]? = some (Cn, T, N)) (hk : k < N ∧ k < nF ci ∧ ci < 8 ∧ r ≠ 0) (hf : frt ci k = r) (hw : Cond.fieldLink own x (T k).1 (T k).2.1 (T k).2.2.1 ∈ lw_g) : SOK own cc nL rt ini pc (s_gr (pc + 3) (ci + 1) (100 * ci + k) r) := by
  intro p l e R s m args below meth c G K0 d mc ms kk Q C nx hn L S h cu su st h1 h2 K Ls H locs ls hB hS hE hl hs
  unfold s_gr at st
  split at st
  · next t y S' =>
    obtain ⟨hy, hs2⟩ := List.forall_mem_cons.mp hs
    cases ht : Nat.beq t (ci + 1) with
    | false => rw [ht] at st; exact st.elim
    | true =>
      rw [ht] at st
      have e := Nat.eq_of_beq_eq_true ht
      subst e
      cases y with
      | zero => exact (st : False).elim
      | succ a =>
        have hka : K a = ci + 1 := (hy a rfl).1
        obtain ⟨q, hq⟩ := hb_at hB (a := a) (by omega) (by omega)
        rw [Fh_obj hka hk.2.2.1] at hq
        refine va_get (D := G.1) C.1 C.2.1 C.2.2.2.2.1 hin C.2.2.2.1 hB.1 hB.2.1 q hq hc k hk.1 (C.2.2.2.2.1 _ hw) (fun _ z => z) (fls_get hk.2.1) hd ?_
        rw [show fval h (a + 1) ci k = rv (hfR h (100 * ci + k) (a + 1)) by unfold fval; rw [if_neg (by rw [hf]; exact hk.2.2.2)]]
        have hty := hB.2.2.2.2.2.1.1 a ci k hka (by rw [hf]; exact hk.2.2.2)
        rw [hf] at hty
        exact hn _ _ _ _ _ _ (st : nx _ _ _ _ _ _) h1 h2 K Ls H locs ls hB hS hE hl (List.forall_mem_cons.mpr ⟨hty, hs2⟩)
  · exact st.elim
theorem wfI_fval_o {h : hp} {f a x ci j : Nat} {v : Int32} (hx : x ≠ a) : fval (wfI h f a v) x ci j = fval h x ci j := by
  unfold fval
  show (if frt ci j = 0 then Value.int (up2 h.1 f a v (100 * ci + j) x) else rv (hfR h (100 * ci + j) x)) = _
  rw [up2_x _ _ hx]
  rfl
theorem wfR_fval_o {h : hp} {f a x ci j v : Nat} (hx : x ≠ a) : fval (wfR h f a v) x ci j = fval h x ci j := by
  unfold fval
  show (if frt ci j = 0 then Value.int (hfI h (100 * ci + j) x) else rv (up2 h.2.1 f a v (100 * ci + j) x)) = _
  rw [up2_x _ _ hx]
  rfl
theorem hb_wfI {G : Gh} {K : Nat → Nat} {Ls : List Nat} {h : hp} {U : State} {H H1 H0 : Heap} {a q ci k : Nat} {v : Int32} {locs1 : List Loc} (hB : HB G K Ls h U H H0) (hka : K a = ci + 1) (hk : k < nF ci) (hc : ci < 8) (hf : frt ci k = 0) (hq : (va_pl Ls (Fh G K h))[q]? = some (a, .inr (ci, fls h (a + 1) ci)))
    (hP : va_P G.1 vwCl ((va_pl Ls (Fh G K h)).set q (a, .inr (ci, (fls h (a + 1) ci).set k (.int v)))) H1) (hD : va_D (gA G) ((va_pl Ls (Fh G K h)).set q (a, .inr (ci, (fls h (a + 1) ci).set k (.int v))))) (hS : va_S (gA G) H H1 locs1) : HB G K Ls (wfI h (100 * ci + k) (a + 1) v) U H1 H0 := by
  refine hb_wr hB (by omega) (by omega) (by rw [Fh_obj hka hc]; exact hq) hP hD hS ?_ ?_ rfl hB.2.2.2.2.2.1 hB.2.2.2.2.2.2.1
  · have := Fh_obj (G := G) (K := K) (h := wfI h (100 * ci + k) (a + 1) v) hka hc
    unfold Fh at this
    rw [this, fls_set hk (h' := wfI h (100 * ci + k) (a + 1) v)]
    · unfold fval
      rw [if_pos hf]
      show Value.int (up2 h.1 _ _ v _ _) = _
      rw [up2_s]
    · intro j hj
      unfold fval
      show (if frt ci j = 0 then Value.int (up2 h.1 (100 * ci + k) (a + 1) v (100 * ci + j) (a + 1)) else _) = _
      rw [up2_f _ _ (by omega)]
      rfl
  · intro b hb _
    exact Fk_congr rfl rfl rfl (fun ci j => wfI_fval_o (by omega))
theorem hb_wfR {G : Gh} {K : Nat → Nat} {Ls : List Nat} {h : hp} {U : State} {H H1 H0 : Heap} {a q ci k v : Nat} {locs1 : List Loc} (hB : HB G K Ls h U H H0) (hka : K a = ci + 1) (hk : k < nF ci) (hc : ci < 8) (hf : frt ci k ≠ 0) (hv : okr K (frt ci k) v) (hq : (va_pl Ls (Fh G K h))[q]? = some (a, .inr (ci, fls h (a + 1) ci)))
    (hP : va_P G.1 vwCl ((va_pl Ls (Fh G K h)).set q (a, .inr (ci, (fls h (a + 1) ci).set k (rv v)))) H1) (hD : va_D (gA G) ((va_pl Ls (Fh G K h)).set q (a, .inr (ci, (fls h (a + 1) ci).set k (rv v))))) (hS : va_S (gA G) H H1 locs1) : HB G K Ls (wfR h (100 * ci + k) (a + 1) v) U H1 H0 := by
  obtain ⟨⟨t1, t2⟩, ⟨x1, x2⟩, -⟩ := hB.2.2.2.2.2
  refine hb_wr hB (by omega) (by omega) (by rw [Fh_obj hka hc]; exact hq) hP hD hS ?_ ?_ rfl ⟨?_, t2⟩ ⟨x1, ?_⟩
  · have := Fh_obj (G := G) (K := K) (h := wfR h (100 * ci + k) (a + 1) v) hka hc
    unfold Fh at this
    rw [this, fls_set hk (h' := wfR h (100 * ci + k) (a + 1) v)]
    · unfold fval
      rw [if_neg hf]
      show rv (up2 h.2.1 _ _ v _ _) = _
      rw [up2_s]
    · intro j hj
      unfold fval
      show (if frt ci j = 0 then _ else rv (up2 h.2.1 (100 * ci + k) (a + 1) v (100 * ci + j) (a + 1))) = _
      rw [up2_f _ _ (by omega)]
      rfl
  · intro b hb _
    exact Fk_congr rfl rfl rfl (fun ci j => wfR_fval_o (by omega))
  · intro b cj j hb hj
    show okr K (frt cj j) (up2 h.2.1 (100 * ci + k) (a + 1) v (100 * cj + j) (b + 1))
    by_cases e : b = a
    · subst e
      have : cj = ci := by omega
      subst this
      by_cases e2 : j = k
      · subst e2
        rw [up2_s]
        exact hv
      · rw [up2_f _ _ (by omega)]
        exact t1 b cj j hb hj
    · rw [up2_x _ _ (by omega)]
      exact t1 b cj j hb hj
  · obtain ⟨⟨y1, a1, a2⟩, ⟨y2, b1, b2⟩, ⟨y3, c1, c2⟩⟩ := x2
    refine ⟨⟨y1, ?_, a2⟩, ⟨y2, ?_, b2⟩, ⟨y3, ?_, c2⟩⟩
    · show up2 h.2.1 _ _ v _ 0 = _
      rw [up2_x _ _ (by omega)]; exact a1
    · show up2 h.2.1 _ _ v _ 0 = _
      rw [up2_x _ _ (by omega)]; exact b1
    · show up2 h.2.1 _ _ v _ 0 = _
      rw [up2_x _ _ (by omega)]; exact c1
theorem k_pi {Cn : String} {T : u_T} {N : Nat} {ty0 : Nat → FieldType} (hin : ∀ w ∈ u_ws Cn T N, w ∈ lw_g) (hty : ∀ k, k < N → parseFieldDescriptor (T k).2.2.1 = some (ty0 k)) (hnm : ∀ a, a < N → ∀ b, b < N → a ≠ b → (T a).2.1 ≠ (T b).2.1) {ci k x : Nat} (hd : decode cc pc = .ok (.putfield x, 3)) (hc : vwCl[ci]? = some (Cn, T, N)) (hk : k < N ∧ k < nF ci ∧ ci < 8 ∧ (T k).2.2.2 = false) (hf : frt ci k = 0) (hw : Cond.fieldLink own x (T k).1 (T k).2.1 (T k).2.2.1 ∈ lw_g) (hi : ty0 k = .int := by rfl) : SOK own cc nL rt ini pc (s_pi (pc + 3) (ci + 1) (100 * ci + k)) := by
  intro p l e R s m args below meth c G K0 d mc ms kk Q C nx hn L S h cu su st h1 h2 K Ls H locs ls hB hS hE hl hs
  unfold s_pi at st
  split at st
  · next v t y S' =>
    obtain ⟨-, hs2⟩ := List.forall_mem_cons.mp hs
    obtain ⟨hy, hs3⟩ := List.forall_mem_cons.mp hs2
    cases ht : Nat.beq t (ci + 1) with
    | false => rw [ht] at st; exact st.elim
    | true =>
      rw [ht] at st
      have e := Nat.eq_of_beq_eq_true ht
      subst e
      cases y with
      | zero => exact (st : False).elim
      | succ a =>
        have hka : K a = ci + 1 := (hy a rfl).1
        obtain ⟨q, hq⟩ := hb_at hB (a := a) (by omega) (by omega)
        rw [Fh_obj hka hk.2.2.1] at hq
        refine va_put (D := G.1) C.1 C.2.1 C.2.2.2.2.1 hin ty0 hty hnm C.2.2.2.1 hB.1 hB.2.1 hB.2.2.1 (vS_here hS) q hq hc k hk.1 (C.2.2.2.2.1 _ hw) (fun _ z => z) hk.2.2.2 (v := .int v) (hi ▸ hty k hk.1) rfl rfl (by rw [fls_len]; exact hk.2.1) hd (fun H1 locs1 hP1 hD1 hS1 => ?_)
        exact hn _ _ _ _ _ _ (st : nx _ _ _ _ _ _) h1 h2 K Ls H1 locs1 ls (hb_wfI hB hka hk.2.1 hk.2.2.1 hf hq hP1 hD1 hS1) (vS_trans hS hS1) hE hl hs3
  · exact st.elim
theorem k_piF {Cn : String} {T : u_T} {N : Nat} {ty0 : Nat → FieldType} (hin : ∀ w ∈ u_ws Cn T N, w ∈ lw_g) (hty : ∀ k, k < N → parseFieldDescriptor (T k).2.2.1 = some (ty0 k)) (hnm : ∀ a, a < N → ∀ b, b < N → a ≠ b → (T a).2.1 ≠ (T b).2.1) {ci k x : Nat} (hd : decode cc pc = .ok (.putfield x, 3)) (hc : vwCl[ci]? = some (Cn, T, N)) (hk : k < N ∧ k < nF ci ∧ ci < 8 ∧ (T k).2.2.2 = true ∧ ini = true) (hf : frt ci k = 0) (hw : Cond.fieldLink own x (T k).1 (T k).2.1 (T k).2.2.1 ∈ lw_g) (hi : ty0 k = .int := by rfl) (ho : (T k).1 = own := by rfl) : SOK own cc nL rt ini pc (s_pi (pc + 3) (ci + 1) (100 * ci + k)) := by
  intro p l e R s m args below meth c G K0 d mc ms kk Q C nx hn L S h cu su st h1 h2 K Ls H locs ls hB hS hE hl hs
  unfold s_pi at st
  split at st
  · next v t y S' =>
    obtain ⟨-, hs2⟩ := List.forall_mem_cons.mp hs
    obtain ⟨hy, hs3⟩ := List.forall_mem_cons.mp hs2
    cases ht : Nat.beq t (ci + 1) with
    | false => rw [ht] at st; exact st.elim
    | true =>
      rw [ht] at st
      have e := Nat.eq_of_beq_eq_true ht
      subst e
      cases y with
      | zero => exact (st : False).elim
      | succ a =>
        have hka : K a = ci + 1 := (hy a rfl).1
        obtain ⟨q, hq⟩ := hb_at hB (a := a) (by omega) (by omega)
        rw [Fh_obj hka hk.2.2.1] at hq
        refine va_putF (D := G.1) C.1 C.2.1 C.2.2.2.2.1 hin ty0 hty hnm C.2.2.2.1 hB.1 hB.2.1 hB.2.2.1 (vS_here hS) q hq hc k hk.1 (C.2.2.2.2.1 _ hw) (fun _ z => z) hk.2.2.2.1 (C.2.2.2.2.2.2.1 hk.2.2.2.2) ho (v := .int v) (hi ▸ hty k hk.1) rfl rfl (by rw [fls_len]; exact hk.2.1) hd (fun H1 locs1 hP1 hD1 hS1 => ?_)
        exact hn _ _ _ _ _ _ (st : nx _ _ _ _ _ _) h1 h2 K Ls H1 locs1 ls (hb_wfI hB hka hk.2.1 hk.2.2.1 hf hq hP1 hD1 hS1) (vS_trans hS hS1) hE hl hs3
  · exact st.elim
theorem k_pr {Cn : String} {T : u_T} {N : Nat} {ty0 : Nat → FieldType} (hin : ∀ w ∈ u_ws Cn T N, w ∈ lw_g) (hty : ∀ k, k < N → parseFieldDescriptor (T k).2.2.1 = some (ty0 k)) (hnm : ∀ a, a < N → ∀ b, b < N → a ≠ b → (T a).2.1 ≠ (T b).2.1) {ci k x r : Nat} (hd : decode cc pc = .ok (.putfield x, 3)) (hc : vwCl[ci]? = some (Cn, T, N)) (hk : k < N ∧ k < nF ci ∧ ci < 8 ∧ (T k).2.2.2 = false ∧ r ≠ 0) (hf : frt ci k = r) (hw : Cond.fieldLink own x (T k).1 (T k).2.1 (T k).2.2.1 ∈ lw_g) (hi : (∃ C, ty0 k = .object C) ∨ ∃ t, ty0 k = .array t := by first | exact Or.inl ⟨_, rfl⟩ | exact Or.inr ⟨_, rfl⟩) : SOK own cc nL rt ini pc (s_pr (pc + 3) (ci + 1) (100 * ci + k) r) := by
  intro p l e R s m args below meth c G K0 d mc ms kk Q C nx hn L S h cu su st h1 h2 K Ls H locs ls hB hS hE hl hs
  unfold s_pr at st
  split at st
  · next u v t y S' =>
    obtain ⟨hv, hs2⟩ := List.forall_mem_cons.mp hs
    obtain ⟨hy, hs3⟩ := List.forall_mem_cons.mp hs2
    cases ht : Nat.beq t (ci + 1) && Nat.beq u r with
    | false => rw [ht] at st; exact st.elim
    | true =>
      rw [ht] at st
      obtain ⟨e1, e2⟩ := Bool.and_eq_true_iff.mp ht
      have e := Nat.eq_of_beq_eq_true e1
      subst e
      have e := Nat.eq_of_beq_eq_true e2
      subst e
      cases y with
      | zero => exact (st : False).elim
      | succ a =>
        have hka : K a = ci + 1 := (hy a rfl).1
        obtain ⟨q, hq⟩ := hb_at hB (a := a) (by omega) (by omega)
        rw [Fh_obj hka hk.2.2.1] at hq
        have hv' : okr K (frt ci k) v := by rw [hf]; exact hv
        refine va_put (D := G.1) C.1 C.2.1 C.2.2.2.2.1 hin ty0 hty hnm C.2.2.2.1 hB.1 hB.2.1 hB.2.2.1 (vS_here hS) q hq hc k hk.1 (C.2.2.2.2.1 _ hw) (fun _ z => z) hk.2.2.2.1 (v := rv v) (hty k hk.1) (nar_ref hi v).1 (nar_ref hi v).2 (by rw [fls_len]; exact hk.2.1) hd (fun H1 locs1 hP1 hD1 hS1 => ?_)
        exact hn _ _ _ _ _ _ (st : nx _ _ _ _ _ _) h1 h2 K Ls H1 locs1 ls (hb_wfR hB hka hk.2.1 hk.2.2.1 (by rw [hf]; exact hk.2.2.2.2) hv' hq hP1 hD1 hS1) (vS_trans hS hS1) hE hl hs3
  · exact st.elim
theorem k_prF {Cn : String} {T : u_T} {N : Nat} {ty0 : Nat → FieldType} (hin : ∀ w ∈ u_ws Cn T N, w ∈ lw_g) (hty : ∀ k, k < N → parseFieldDescriptor (T k).2.2.1 = some (ty0 k)) (hnm : ∀ a, a < N → ∀ b, b < N → a ≠ b → (T a).2.1 ≠ (T b).2.1) {ci k x r : Nat} (hd : decode cc pc = .ok (.putfield x, 3)) (hc : vwCl[ci]? = some (Cn, T, N)) (hk : k < N ∧ k < nF ci ∧ ci < 8 ∧ ((T k).2.2.2 = true ∧ ini = true) ∧ r ≠ 0) (hf : frt ci k = r) (hw : Cond.fieldLink own x (T k).1 (T k).2.1 (T k).2.2.1 ∈ lw_g) (hi : (∃ C, ty0 k = .object C) ∨ ∃ t, ty0 k = .array t := by first | exact Or.inl ⟨_, rfl⟩ | exact Or.inr ⟨_, rfl⟩) (ho : (T k).1 = own := by rfl) : SOK own cc nL rt ini pc (s_pr (pc + 3) (ci + 1) (100 * ci + k) r) := by
  intro p l e R s m args below meth c G K0 d mc ms kk Q C nx hn L S h cu su st h1 h2 K Ls H locs ls hB hS hE hl hs
  unfold s_pr at st
  split at st
  · next u v t y S' =>
    obtain ⟨hv, hs2⟩ := List.forall_mem_cons.mp hs
    obtain ⟨hy, hs3⟩ := List.forall_mem_cons.mp hs2
    cases ht : Nat.beq t (ci + 1) && Nat.beq u r with
    | false => rw [ht] at st; exact st.elim
    | true =>
      rw [ht] at st
      obtain ⟨e1, e2⟩ := Bool.and_eq_true_iff.mp ht
      have e := Nat.eq_of_beq_eq_true e1
      subst e
      have e := Nat.eq_of_beq_eq_true e2
      subst e
      cases y with
      | zero => exact (st : False).elim
      | succ a =>
        have hka : K a = ci + 1 := (hy a rfl).1
        obtain ⟨q, hq⟩ := hb_at hB (a := a) (by omega) (by omega)
        rw [Fh_obj hka hk.2.2.1] at hq
        have hv' : okr K (frt ci k) v := by rw [hf]; exact hv
        refine va_putF (D := G.1) C.1 C.2.1 C.2.2.2.2.1 hin ty0 hty hnm C.2.2.2.1 hB.1 hB.2.1 hB.2.2.1 (vS_here hS) q hq hc k hk.1 (C.2.2.2.2.1 _ hw) (fun _ z => z) hk.2.2.2.1.1 (C.2.2.2.2.2.2.1 hk.2.2.2.1.2) ho (v := rv v) (hty k hk.1) (nar_ref hi v).1 (nar_ref hi v).2 (by rw [fls_len]; exact hk.2.1) hd (fun H1 locs1 hP1 hD1 hS1 => ?_)
        exact hn _ _ _ _ _ _ (st : nx _ _ _ _ _ _) h1 h2 K Ls H1 locs1 ls (hb_wfR hB hka hk.2.1 hk.2.2.1 (by rw [hf]; exact hk.2.2.2.2) hv' hq hP1 hD1 hS1) (vS_trans hS hS1) hE hl hs3
  · exact st.elim
end K2
