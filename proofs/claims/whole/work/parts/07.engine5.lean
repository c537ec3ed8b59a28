/-! ===== ENGINE: arrays, new cells ===== -/
theorem ty_ext {K K' : Nat → Nat} {t x : Nat} (ht : t ≠ 0) (hE : Ext K K') (h : okr K t x) : okr K' t x := okr_ext hE h
theorem waI_o {h : hp} {a x : Nat} {g : Nat → Int32} (hx : x ≠ a) : haI (waI h a g) x = haI h x := va_up_ne _ _ hx
theorem waI_s {h : hp} {a : Nat} {g : Nat → Int32} : haI (waI h a g) a = g := va_up_self _ _ _
theorem waR_o {h : hp} {a x : Nat} {g : Nat → Nat} (hx : x ≠ a) : haR (waR h a g) x = haR h x := va_up_ne _ _ hx
theorem waR_s {h : hp} {a : Nat} {g : Nat → Nat} : haR (waR h a g) a = g := va_up_self _ _ _
theorem sx_waI {G : Gh} {K : Nat → Nat} {h : hp} {U : State} {H0 : Heap} {a : Nat} {g : Nat → Int32} (ha : K a ≠ 25) (hX : Sx G K h U H0) : Sx G K (waI h (a + 1) g) U H0 := by
  refine ⟨fun b hb => ?_, hX.2⟩
  have e : b ≠ a := fun q => ha (q ▸ hb)
  rw [waI_o (by omega)]
  exact hX.1 b hb
theorem hb_waI20 {G : Gh} {K : Nat → Nat} {Ls : List Nat} {h : hp} {U : State} {H H1 H0 : Heap} {a q : Nat} {g : Nat → Int32} {locs1 : List Loc} (hB : HB G K Ls h U H H0) (hka : K a = 20) (hq : (va_pl Ls (Fh G K h))[q]? = some (a, .inl (G.2.1 0, haL h (a + 1), .inl (haI h (a + 1)))))
    (hP : va_P G.1 vwCl ((va_pl Ls (Fh G K h)).set q (a, .inl (G.2.1 0, haL h (a + 1), .inl g))) H1) (hD : va_D (gA G) ((va_pl Ls (Fh G K h)).set q (a, .inl (G.2.1 0, haL h (a + 1), .inl g)))) (hS : va_S (gA G) H H1 locs1) : HB G K Ls (waI h (a + 1) g) U H1 H0 := by
  refine hb_wr hB (by omega) (by omega) (by rw [Fh_20 hka]; exact hq) hP hD hS ?_ ?_ rfl hB.2.2.2.2.2.1 (sx_waI (by omega) hB.2.2.2.2.2.2.1)
  · have := Fh_20 (G := G) (K := K) (h := waI h (a + 1) g) hka
    unfold Fh at this
    rw [this, waI_s]
    rfl
  · intro b hb _
    exact Fk_congr rfl (waI_o (by omega)) rfl (fun ci j => rfl)
theorem hb_waI21 {G : Gh} {K : Nat → Nat} {Ls : List Nat} {h : hp} {U : State} {H H1 H0 : Heap} {a q : Nat} {g : Nat → Int32} {locs1 : List Loc} (hB : HB G K Ls h U H H0) (hka : K a = 21) (hq : (va_pl Ls (Fh G K h))[q]? = some (a, .inl (G.2.1 1, haL h (a + 1), .inl (haI h (a + 1)))))
    (hP : va_P G.1 vwCl ((va_pl Ls (Fh G K h)).set q (a, .inl (G.2.1 1, haL h (a + 1), .inl g))) H1) (hD : va_D (gA G) ((va_pl Ls (Fh G K h)).set q (a, .inl (G.2.1 1, haL h (a + 1), .inl g)))) (hS : va_S (gA G) H H1 locs1) : HB G K Ls (waI h (a + 1) g) U H1 H0 := by
  refine hb_wr hB (by omega) (by omega) (by rw [Fh_21 hka]; exact hq) hP hD hS ?_ ?_ rfl hB.2.2.2.2.2.1 (sx_waI (by omega) hB.2.2.2.2.2.2.1)
  · have := Fh_21 (G := G) (K := K) (h := waI h (a + 1) g) hka
    unfold Fh at this
    rw [this, waI_s]
    rfl
  · intro b hb _
    exact Fk_congr rfl (waI_o (by omega)) rfl (fun ci j => rfl)
theorem dr_up (f : Nat → Nat) (i v : Nat) : va_up (fun j => dr (f j)) i (dr v) = fun j => dr (va_up f i v j) := by
  funext j
  unfold va_up
  split <;> rfl
section K3
variable {own : String} {cc : ByteArray} {nL : Nat} {rt : Option FieldType} {ini : Bool} {pc : Nat}
theorem k_iaload (hd : decode cc pc = .ok (.iaload, 1)) : SOK own cc nL rt ini pc (s_iald (pc + 1)) := by
  intro p l e R s m args below meth c G K0 d mc ms kk Q C nx hn L S h cu su st h1 h2 K Ls H locs ls hB hS hE hl hs
  unfold s_iald at st
  split at st
  · next i t y S' =>
    obtain ⟨hy, hs3⟩ := List.forall_mem_cons.mp (List.forall_mem_cons.mp hs).2
    cases ht : Nat.beq t 20 || Nat.beq t 25 with
    | false => rw [ht] at st; exact st.elim
    | true =>
      rw [ht] at st
      cases y with
      | zero => exact (st : False).elim
      | succ a =>
        have st : vp_in i (haL h (a + 1)) ∧ nx (pc + 1) L (.inl (haI h (a + 1) i.toNatClampNeg) :: S') h cu su := st
        have hka : K a = t := (hy a rfl).1
        have k := hn _ _ _ _ _ _ st.2 h1 h2 K Ls H locs ls hB hS hE hl (List.forall_mem_cons.mpr ⟨trivial, hs3⟩)
        rcases Bool.or_eq_true_iff.mp ht with e | e
        · have e := Nat.eq_of_beq_eq_true e
          subst e
          obtain ⟨q, hq⟩ := hb_at hB (a := a) (by omega) (by omega)
          rw [Fh_20 hka] at hq
          exact va_iald (D := G.1) C.1 C.2.1 hB.1 hB.2.1 q 0 hq rfl st.1 hd k
        · have e := Nat.eq_of_beq_eq_true e
          subst e
          exact va_ti C.1 C.2.1 (hB.2.2.2.2.2.2.1.1 a hka) hS st.1 rfl hd k
  · exact st.elim
theorem k_baload (hd : decode cc pc = .ok (.baload, 1)) : SOK own cc nL rt ini pc (s_zald (pc + 1)) := by
  intro p l e R s m args below meth c G K0 d mc ms kk Q C nx hn L S h cu su st h1 h2 K Ls H locs ls hB hS hE hl hs
  unfold s_zald at st
  split at st
  · next i t y S' =>
    obtain ⟨hy, hs3⟩ := List.forall_mem_cons.mp (List.forall_mem_cons.mp hs).2
    cases ht : Nat.beq t 21 with
    | false => rw [ht] at st; exact st.elim
    | true =>
      rw [ht] at st
      cases y with
      | zero => exact (st : False).elim
      | succ a =>
        have st : vp_in i (haL h (a + 1)) ∧ nx (pc + 1) L (.inl (haI h (a + 1) i.toNatClampNeg) :: S') h cu su := st
        have e := Nat.eq_of_beq_eq_true ht
        subst e
        have hka : K a = 21 := (hy a rfl).1
        obtain ⟨q, hq⟩ := hb_at hB (a := a) (by omega) (by omega)
        rw [Fh_21 hka] at hq
        exact va_zald (D := G.1) C.1 C.2.1 hB.1 hB.2.1 q 1 hq rfl st.1 hd (hn _ _ _ _ _ _ st.2 h1 h2 K Ls H locs ls hB hS hE hl (List.forall_mem_cons.mpr ⟨trivial, hs3⟩))
  · exact st.elim
theorem k_iastore (hd : decode cc pc = .ok (.iastore, 1)) : SOK own cc nL rt ini pc (s_iast (pc + 1)) := by
  intro p l e R s m args below meth c G K0 d mc ms kk Q C nx hn L S h cu su st h1 h2 K Ls H locs ls hB hS hE hl hs
  unfold s_iast at st
  split at st
  · next v i t y S' =>
    obtain ⟨hy, hs3⟩ := List.forall_mem_cons.mp (List.forall_mem_cons.mp (List.forall_mem_cons.mp hs).2).2
    cases ht : Nat.beq t 20 with
    | false => rw [ht] at st; exact st.elim
    | true =>
      rw [ht] at st
      cases y with
      | zero => exact (st : False).elim
      | succ a =>
        have st : vp_in i (haL h (a + 1)) ∧ nx (pc + 1) L S' (waI h (a + 1) (upd (haI h (a + 1)) i.toNatClampNeg v)) cu su := st
        have e := Nat.eq_of_beq_eq_true ht
        subst e
        have hka : K a = 20 := (hy a rfl).1
        obtain ⟨q, hq⟩ := hb_at hB (a := a) (by omega) (by omega)
        rw [Fh_20 hka] at hq
        exact va_iast (D := G.1) C.1 C.2.1 hB.1 hB.2.1 hB.2.2.1 (vS_here hS) q 0 hq rfl st.1 hd (fun H1 locs1 hP1 hD1 hS1 => hn _ _ _ _ _ _ st.2 h1 h2 K Ls H1 locs1 ls (hb_waI20 hB hka hq hP1 hD1 hS1) (vS_trans hS hS1) hE hl hs3)
  · exact st.elim
theorem k_bastore (hd : decode cc pc = .ok (.bastore, 1)) : SOK own cc nL rt ini pc (s_zast (pc + 1)) := by
  intro p l e R s m args below meth c G K0 d mc ms kk Q C nx hn L S h cu su st h1 h2 K Ls H locs ls hB hS hE hl hs
  unfold s_zast at st
  split at st
  · next v i t y S' =>
    obtain ⟨hy, hs3⟩ := List.forall_mem_cons.mp (List.forall_mem_cons.mp (List.forall_mem_cons.mp hs).2).2
    cases ht : Nat.beq t 21 with
    | false => rw [ht] at st; exact st.elim
    | true =>
      rw [ht] at st
      cases y with
      | zero => exact (st : False).elim
      | succ a =>
        have st : vp_in i (haL h (a + 1)) ∧ nx (pc + 1) L S' (waI h (a + 1) (upd (haI h (a + 1)) i.toNatClampNeg (vp_nar .boolean v))) cu su := st
        have e := Nat.eq_of_beq_eq_true ht
        subst e
        have hka : K a = 21 := (hy a rfl).1
        obtain ⟨q, hq⟩ := hb_at hB (a := a) (by omega) (by omega)
        rw [Fh_21 hka] at hq
        exact va_zast (D := G.1) C.1 C.2.1 hB.1 hB.2.1 hB.2.2.1 (vS_here hS) q 1 hq rfl st.1 hd (fun H1 locs1 hP1 hD1 hS1 => hn _ _ _ _ _ _ st.2 h1 h2 K Ls H1 locs1 ls (hb_waI21 hB hka hq hP1 hD1 hS1) (vS_trans hS hS1) hE hl hs3)
  · exact st.elim
theorem k_len (hd : decode cc pc = .ok (.arraylength, 1)) : SOK own cc nL rt ini pc (s_len (pc + 1)) := by
  intro p l e R s m args below meth c G K0 d mc ms kk Q C nx hn L S h cu su st h1 h2 K Ls H locs ls hB hS hE hl hs
  unfold s_len at st
  split at st
  · next t y S' =>
    obtain ⟨hy, hs3⟩ := List.forall_mem_cons.mp hs
    cases ht : Nat.beq t 20 with
    | false => rw [ht] at st; exact st.elim
    | true =>
      rw [ht] at st
      cases y with
      | zero => exact (st : False).elim
      | succ a =>
        have st : nx (pc + 1) L (.inl (nI (haL h (a + 1))) :: S') h cu su := st
        have e := Nat.eq_of_beq_eq_true ht
        subst e
        have hka : K a = 20 := (hy a rfl).1
        obtain ⟨q, hq⟩ := hb_at hB (a := a) (by omega) (by omega)
        rw [Fh_20 hka] at hq
        exact va_alen (D := G.1) C.1 C.2.1 hB.1 hB.2.1 q 0 hq rfl rfl hd (hn _ _ _ _ _ _ st h1 h2 K Ls H locs ls hB hS hE hl (List.forall_mem_cons.mpr ⟨trivial, hs3⟩))
  · exact st.elim
theorem hb_waR22 {G : Gh} {K : Nat → Nat} {Ls : List Nat} {h : hp} {U : State} {H H1 H0 : Heap} {a q i v : Nat} {locs1 : List Loc} (hB : HB G K Ls h U H H0) (hka : K a = 22) (hv : okr K 2 v) (hq : (va_pl Ls (Fh G K h))[q]? = some (a, .inl (G.2.1 2, haL h (a + 1), .inr (.inr (.inr (.inr (fun j => dr (haR h (a + 1) j))))))))
    (hP : va_P G.1 vwCl ((va_pl Ls (Fh G K h)).set q (a, .inl (G.2.1 2, haL h (a + 1), .inr (.inr (.inr (.inr (va_up (fun j => dr (haR h (a + 1) j)) i (dr v)))))))) H1) (hD : va_D (gA G) ((va_pl Ls (Fh G K h)).set q (a, .inl (G.2.1 2, haL h (a + 1), .inr (.inr (.inr (.inr (va_up (fun j => dr (haR h (a + 1) j)) i (dr v))))))))) (hS : va_S (gA G) H H1 locs1) : HB G K Ls (waR h (a + 1) (va_up (haR h (a + 1)) i v)) U H1 H0 := by
  obtain ⟨t1, t2, t3, t4⟩ := hB.2.2.2.2.2.1
  have ar : ∀ (c e : Nat), (c = 22 → okr K e v) → (∀ a j, K a = c → okr K e (haR h (a + 1) j)) → ∀ b j, K b = c → okr K e (haR (waR h (a + 1) (va_up (haR h (a + 1)) i v)) (b + 1) j) := by
    intro c e h1 h2 b j hb
    by_cases e1 : b = a
    · subst e1
      rw [waR_s]
      by_cases e2 : j = i
      · subst e2; rw [va_up_self]; exact h1 (by omega)
      · rw [va_up_ne _ _ e2]; exact h2 b j hb
    · rw [waR_o (by omega)]
      exact h2 b j hb
  refine hb_wr hB (by omega) (by omega) (by rw [Fh_22 hka]; exact hq) hP hD hS ?_ ?_ rfl ⟨t1, ar 22 2 (fun z => by first | exact hv | omega) t2, ar 23 4 (fun z => by first | exact hv | omega) t3, ar 24 6 (fun z => by first | exact hv | omega) t4⟩ hB.2.2.2.2.2.2.1
  · have := Fh_22 (G := G) (K := K) (h := waR h (a + 1) (va_up (haR h (a + 1)) i v)) hka
    unfold Fh at this
    rw [this, waR_s, dr_up]
    rfl
  · intro b hb _
    exact Fk_congr rfl rfl (waR_o (by omega)) (fun ci j => rfl)
theorem k_aaload22 (hd : decode cc pc = .ok (.aaload, 1)) : SOK own cc nL rt ini pc (s_aald (pc + 1) 22 2) := by
  intro p l e R s m args below meth c G K0 d mc ms kk Q C nx hn L S h cu su st h1 h2 K Ls H locs ls hB hS hE hl hs
  unfold s_aald at st
  split at st
  · next i t y S' =>
    obtain ⟨hy, hs3⟩ := List.forall_mem_cons.mp (List.forall_mem_cons.mp hs).2
    cases ht : Nat.beq t 22 with
    | false => rw [ht] at st; exact st.elim
    | true =>
      rw [ht] at st
      cases y with
      | zero => exact (st : False).elim
      | succ a =>
        have st : vp_in i (haL h (a + 1)) ∧ nx (pc + 1) L (.inr (.inr (2, haR h (a + 1) i.toNatClampNeg)) :: S') h cu su := st
        have e := Nat.eq_of_beq_eq_true ht
        subst e
        have hka : K a = 22 := (hy a rfl).1
        obtain ⟨q, hq⟩ := hb_at hB (a := a) (by omega) (by omega)
        rw [Fh_22 hka] at hq
        refine va_aldq (D := G.1) C.1 C.2.1 hB.1 hB.2.1 q 2 hq rfl st.1 hd ?_
        rw [rf_dr]
        exact hn _ _ _ _ _ _ st.2 h1 h2 K Ls H locs ls hB hS hE hl (List.forall_mem_cons.mpr ⟨hB.2.2.2.2.2.1.2.1 a _ hka, hs3⟩)
  · exact st.elim
theorem k_aastore22 (hd : decode cc pc = .ok (.aastore, 1)) : SOK own cc nL rt ini pc (s_aast (pc + 1) 22 2) := by
  intro p l e R s m args below meth c G K0 d mc ms kk Q C nx hn L S h cu su st h1 h2 K Ls H locs ls hB hS hE hl hs
  unfold s_aast at st
  split at st
  · next u v i t y S' =>
    obtain ⟨hv, hs2⟩ := List.forall_mem_cons.mp hs
    obtain ⟨hy, hs3⟩ := List.forall_mem_cons.mp (List.forall_mem_cons.mp hs2).2
    cases ht : Nat.beq t 22 && (Nat.beq u 2 || Nat.beq v 0) with
    | false => rw [ht] at st; exact st.elim
    | true =>
      rw [ht] at st
      obtain ⟨e1, e2⟩ := Bool.and_eq_true_iff.mp ht
      cases y with
      | zero => exact (st : False).elim
      | succ a =>
        have st : vp_in i (haL h (a + 1)) ∧ nx (pc + 1) L S' (waR h (a + 1) (va_up (haR h (a + 1)) i.toNatClampNeg v)) cu su := st
        have e := Nat.eq_of_beq_eq_true e1
        subst e
        have hka : K a = 22 := (hy a rfl).1
        obtain ⟨q, hq⟩ := hb_at hB (a := a) (by omega) (by omega)
        rw [Fh_22 hka] at hq
        cases v with
        | zero => exact va_astqN (D := G.1) C.1 C.2.1 hB.1 hB.2.1 hB.2.2.1 (vS_here hS) q 2 hq rfl st.1 hd (fun H1 locs1 hP1 hD1 hS1 => hn _ _ _ _ _ _ st.2 h1 h2 K Ls H1 locs1 ls (hb_waR22 (v := 0) hB hka (fun b hb => by omega) hq hP1 hD1 hS1) (vS_trans hS hS1) hE hl hs3)
        | succ v =>
          have e3 : u = 2 := by
            rcases Bool.or_eq_true_iff.mp e2 with z | z
            · exact Nat.eq_of_beq_eq_true z
            · cases z
          subst e3
          have hkv : K v = 2 := (hv v rfl).1
          obtain ⟨qv, hqv⟩ := hb_at hB (a := v) (by omega) (by omega)
          rw [Fh_obj (ci := 1) hkv (by decide)] at hqv
          exact va_astq (D := G.1) C.1 C.2.1 hB.1 hB.2.1 hB.2.2.1 (vS_here hS) q 2 qv 1 (r := (RX1, TX1, nF 1)) hq rfl hqv rfl st.1 hd (fun H1 locs1 hP1 hD1 hS1 => hn _ _ _ _ _ _ st.2 h1 h2 K Ls H1 locs1 ls (hb_waR22 (v := v + 1) hB hka hv hq hP1 hD1 hS1) (vS_trans hS hS1) hE hl hs3)
  · exact st.elim
theorem hb_waR23 {G : Gh} {K : Nat → Nat} {Ls : List Nat} {h : hp} {U : State} {H H1 H0 : Heap} {a q i v : Nat} {locs1 : List Loc} (hB : HB G K Ls h U H H0) (hka : K a = 23) (hv : okr K 4 v) (hq : (va_pl Ls (Fh G K h))[q]? = some (a, .inl (G.2.1 3, haL h (a + 1), .inr (.inr (.inr (.inr (fun j => dr (haR h (a + 1) j))))))))
    (hP : va_P G.1 vwCl ((va_pl Ls (Fh G K h)).set q (a, .inl (G.2.1 3, haL h (a + 1), .inr (.inr (.inr (.inr (va_up (fun j => dr (haR h (a + 1) j)) i (dr v)))))))) H1) (hD : va_D (gA G) ((va_pl Ls (Fh G K h)).set q (a, .inl (G.2.1 3, haL h (a + 1), .inr (.inr (.inr (.inr (va_up (fun j => dr (haR h (a + 1) j)) i (dr v))))))))) (hS : va_S (gA G) H H1 locs1) : HB G K Ls (waR h (a + 1) (va_up (haR h (a + 1)) i v)) U H1 H0 := by
  obtain ⟨t1, t2, t3, t4⟩ := hB.2.2.2.2.2.1
  have ar : ∀ (c e : Nat), (c = 23 → okr K e v) → (∀ a j, K a = c → okr K e (haR h (a + 1) j)) → ∀ b j, K b = c → okr K e (haR (waR h (a + 1) (va_up (haR h (a + 1)) i v)) (b + 1) j) := by
    intro c e h1 h2 b j hb
    by_cases e1 : b = a
    · subst e1
      rw [waR_s]
      by_cases e2 : j = i
      · subst e2; rw [va_up_self]; exact h1 (by omega)
      · rw [va_up_ne _ _ e2]; exact h2 b j hb
    · rw [waR_o (by omega)]
      exact h2 b j hb
  refine hb_wr hB (by omega) (by omega) (by rw [Fh_23 hka]; exact hq) hP hD hS ?_ ?_ rfl ⟨t1, ar 22 2 (fun z => by first | exact hv | omega) t2, ar 23 4 (fun z => by first | exact hv | omega) t3, ar 24 6 (fun z => by first | exact hv | omega) t4⟩ hB.2.2.2.2.2.2.1
  · have := Fh_23 (G := G) (K := K) (h := waR h (a + 1) (va_up (haR h (a + 1)) i v)) hka
    unfold Fh at this
    rw [this, waR_s, dr_up]
    rfl
  · intro b hb _
    exact Fk_congr rfl rfl (waR_o (by omega)) (fun ci j => rfl)
theorem k_aaload23 (hd : decode cc pc = .ok (.aaload, 1)) : SOK own cc nL rt ini pc (s_aald (pc + 1) 23 4) := by
  intro p l e R s m args below meth c G K0 d mc ms kk Q C nx hn L S h cu su st h1 h2 K Ls H locs ls hB hS hE hl hs
  unfold s_aald at st
  split at st
  · next i t y S' =>
    obtain ⟨hy, hs3⟩ := List.forall_mem_cons.mp (List.forall_mem_cons.mp hs).2
    cases ht : Nat.beq t 23 with
    | false => rw [ht] at st; exact st.elim
    | true =>
      rw [ht] at st
      cases y with
      | zero => exact (st : False).elim
      | succ a =>
        have st : vp_in i (haL h (a + 1)) ∧ nx (pc + 1) L (.inr (.inr (4, haR h (a + 1) i.toNatClampNeg)) :: S') h cu su := st
        have e := Nat.eq_of_beq_eq_true ht
        subst e
        have hka : K a = 23 := (hy a rfl).1
        obtain ⟨q, hq⟩ := hb_at hB (a := a) (by omega) (by omega)
        rw [Fh_23 hka] at hq
        refine va_aldq (D := G.1) C.1 C.2.1 hB.1 hB.2.1 q 3 hq rfl st.1 hd ?_
        rw [rf_dr]
        exact hn _ _ _ _ _ _ st.2 h1 h2 K Ls H locs ls hB hS hE hl (List.forall_mem_cons.mpr ⟨hB.2.2.2.2.2.1.2.2.1 a _ hka, hs3⟩)
  · exact st.elim
theorem k_aastore23 (hd : decode cc pc = .ok (.aastore, 1)) : SOK own cc nL rt ini pc (s_aast (pc + 1) 23 4) := by
  intro p l e R s m args below meth c G K0 d mc ms kk Q C nx hn L S h cu su st h1 h2 K Ls H locs ls hB hS hE hl hs
  unfold s_aast at st
  split at st
  · next u v i t y S' =>
    obtain ⟨hv, hs2⟩ := List.forall_mem_cons.mp hs
    obtain ⟨hy, hs3⟩ := List.forall_mem_cons.mp (List.forall_mem_cons.mp hs2).2
    cases ht : Nat.beq t 23 && (Nat.beq u 4 || Nat.beq v 0) with
    | false => rw [ht] at st; exact st.elim
    | true =>
      rw [ht] at st
      obtain ⟨e1, e2⟩ := Bool.and_eq_true_iff.mp ht
      cases y with
      | zero => exact (st : False).elim
      | succ a =>
        have st : vp_in i (haL h (a + 1)) ∧ nx (pc + 1) L S' (waR h (a + 1) (va_up (haR h (a + 1)) i.toNatClampNeg v)) cu su := st
        have e := Nat.eq_of_beq_eq_true e1
        subst e
        have hka : K a = 23 := (hy a rfl).1
        obtain ⟨q, hq⟩ := hb_at hB (a := a) (by omega) (by omega)
        rw [Fh_23 hka] at hq
        cases v with
        | zero => exact va_astqN (D := G.1) C.1 C.2.1 hB.1 hB.2.1 hB.2.2.1 (vS_here hS) q 3 hq rfl st.1 hd (fun H1 locs1 hP1 hD1 hS1 => hn _ _ _ _ _ _ st.2 h1 h2 K Ls H1 locs1 ls (hb_waR23 (v := 0) hB hka (fun b hb => by omega) hq hP1 hD1 hS1) (vS_trans hS hS1) hE hl hs3)
        | succ v =>
          have e3 : u = 4 := by
            rcases Bool.or_eq_true_iff.mp e2 with z | z
            · exact Nat.eq_of_beq_eq_true z
            · cases z
          subst e3
          have hkv : K v = 4 := (hv v rfl).1
          obtain ⟨qv, hqv⟩ := hb_at hB (a := v) (by omega) (by omega)
          rw [Fh_obj (ci := 3) hkv (by decide)] at hqv
          exact va_astq (D := G.1) C.1 C.2.1 hB.1 hB.2.1 hB.2.2.1 (vS_here hS) q 3 qv 3 (r := (RX3, TX3, nF 3)) hq rfl hqv rfl st.1 hd (fun H1 locs1 hP1 hD1 hS1 => hn _ _ _ _ _ _ st.2 h1 h2 K Ls H1 locs1 ls (hb_waR23 (v := v + 1) hB hka hv hq hP1 hD1 hS1) (vS_trans hS hS1) hE hl hs3)
  · exact st.elim
theorem hb_waR24 {G : Gh} {K : Nat → Nat} {Ls : List Nat} {h : hp} {U : State} {H H1 H0 : Heap} {a q i v : Nat} {locs1 : List Loc} (hB : HB G K Ls h U H H0) (hka : K a = 24) (hv : okr K 6 v) (hq : (va_pl Ls (Fh G K h))[q]? = some (a, .inl (G.2.1 4, haL h (a + 1), .inr (.inr (.inr (.inr (fun j => dr (haR h (a + 1) j))))))))
    (hP : va_P G.1 vwCl ((va_pl Ls (Fh G K h)).set q (a, .inl (G.2.1 4, haL h (a + 1), .inr (.inr (.inr (.inr (va_up (fun j => dr (haR h (a + 1) j)) i (dr v)))))))) H1) (hD : va_D (gA G) ((va_pl Ls (Fh G K h)).set q (a, .inl (G.2.1 4, haL h (a + 1), .inr (.inr (.inr (.inr (va_up (fun j => dr (haR h (a + 1) j)) i (dr v))))))))) (hS : va_S (gA G) H H1 locs1) : HB G K Ls (waR h (a + 1) (va_up (haR h (a + 1)) i v)) U H1 H0 := by
  obtain ⟨t1, t2, t3, t4⟩ := hB.2.2.2.2.2.1
  have ar : ∀ (c e : Nat), (c = 24 → okr K e v) → (∀ a j, K a = c → okr K e (haR h (a + 1) j)) → ∀ b j, K b = c → okr K e (haR (waR h (a + 1) (va_up (haR h (a + 1)) i v)) (b + 1) j) := by
    intro c e h1 h2 b j hb
    by_cases e1 : b = a
    · subst e1
      rw [waR_s]
      by_cases e2 : j = i
      · subst e2; rw [va_up_self]; exact h1 (by omega)
      · rw [va_up_ne _ _ e2]; exact h2 b j hb
    · rw [waR_o (by omega)]
      exact h2 b j hb
  refine hb_wr hB (by omega) (by omega) (by rw [Fh_24 hka]; exact hq) hP hD hS ?_ ?_ rfl ⟨t1, ar 22 2 (fun z => by first | exact hv | omega) t2, ar 23 4 (fun z => by first | exact hv | omega) t3, ar 24 6 (fun z => by first | exact hv | omega) t4⟩ hB.2.2.2.2.2.2.1
  · have := Fh_24 (G := G) (K := K) (h := waR h (a + 1) (va_up (haR h (a + 1)) i v)) hka
    unfold Fh at this
    rw [this, waR_s, dr_up]
    rfl
  · intro b hb _
    exact Fk_congr rfl rfl (waR_o (by omega)) (fun ci j => rfl)
theorem k_aaload24 (hd : decode cc pc = .ok (.aaload, 1)) : SOK own cc nL rt ini pc (s_aald (pc + 1) 24 6) := by
  intro p l e R s m args below meth c G K0 d mc ms kk Q C nx hn L S h cu su st h1 h2 K Ls H locs ls hB hS hE hl hs
  unfold s_aald at st
  split at st
  · next i t y S' =>
    obtain ⟨hy, hs3⟩ := List.forall_mem_cons.mp (List.forall_mem_cons.mp hs).2
    cases ht : Nat.beq t 24 with
    | false => rw [ht] at st; exact st.elim
    | true =>
      rw [ht] at st
      cases y with
      | zero => exact (st : False).elim
      | succ a =>
        have st : vp_in i (haL h (a + 1)) ∧ nx (pc + 1) L (.inr (.inr (6, haR h (a + 1) i.toNatClampNeg)) :: S') h cu su := st
        have e := Nat.eq_of_beq_eq_true ht
        subst e
        have hka : K a = 24 := (hy a rfl).1
        obtain ⟨q, hq⟩ := hb_at hB (a := a) (by omega) (by omega)
        rw [Fh_24 hka] at hq
        refine va_aldq (D := G.1) C.1 C.2.1 hB.1 hB.2.1 q 4 hq rfl st.1 hd ?_
        rw [rf_dr]
        exact hn _ _ _ _ _ _ st.2 h1 h2 K Ls H locs ls hB hS hE hl (List.forall_mem_cons.mpr ⟨hB.2.2.2.2.2.1.2.2.2 a _ hka, hs3⟩)
  · exact st.elim
theorem k_aastore24 (hd : decode cc pc = .ok (.aastore, 1)) : SOK own cc nL rt ini pc (s_aast (pc + 1) 24 6) := by
  intro p l e R s m args below meth c G K0 d mc ms kk Q C nx hn L S h cu su st h1 h2 K Ls H locs ls hB hS hE hl hs
  unfold s_aast at st
  split at st
  · next u v i t y S' =>
    obtain ⟨hv, hs2⟩ := List.forall_mem_cons.mp hs
    obtain ⟨hy, hs3⟩ := List.forall_mem_cons.mp (List.forall_mem_cons.mp hs2).2
    cases ht : Nat.beq t 24 && (Nat.beq u 6 || Nat.beq v 0) with
    | false => rw [ht] at st; exact st.elim
    | true =>
      rw [ht] at st
      obtain ⟨e1, e2⟩ := Bool.and_eq_true_iff.mp ht
      cases y with
      | zero => exact (st : False).elim
      | succ a =>
        have st : vp_in i (haL h (a + 1)) ∧ nx (pc + 1) L S' (waR h (a + 1) (va_up (haR h (a + 1)) i.toNatClampNeg v)) cu su := st
        have e := Nat.eq_of_beq_eq_true e1
        subst e
        have hka : K a = 24 := (hy a rfl).1
        obtain ⟨q, hq⟩ := hb_at hB (a := a) (by omega) (by omega)
        rw [Fh_24 hka] at hq
        cases v with
        | zero => exact va_astqN (D := G.1) C.1 C.2.1 hB.1 hB.2.1 hB.2.2.1 (vS_here hS) q 4 hq rfl st.1 hd (fun H1 locs1 hP1 hD1 hS1 => hn _ _ _ _ _ _ st.2 h1 h2 K Ls H1 locs1 ls (hb_waR24 (v := 0) hB hka (fun b hb => by omega) hq hP1 hD1 hS1) (vS_trans hS hS1) hE hl hs3)
        | succ v =>
          have e3 : u = 6 := by
            rcases Bool.or_eq_true_iff.mp e2 with z | z
            · exact Nat.eq_of_beq_eq_true z
            · cases z
          subst e3
          have hkv : K v = 6 := (hv v rfl).1
          obtain ⟨qv, hqv⟩ := hb_at hB (a := v) (by omega) (by omega)
          rw [Fh_obj (ci := 5) hkv (by decide)] at hqv
          exact va_astq (D := G.1) C.1 C.2.1 hB.1 hB.2.1 hB.2.2.1 (vS_here hS) q 4 qv 5 (r := (RX5, TX5, nF 5)) hq rfl hqv rfl st.1 hd (fun H1 locs1 hP1 hD1 hS1 => hn _ _ _ _ _ _ st.2 h1 h2 K Ls H1 locs1 ls (hb_waR24 (v := v + 1) hB hka hv hq hP1 hD1 hS1) (vS_trans hS hS1) hE hl hs3)
  · exact st.elim
theorem k_gs {f x : Nat} {nm : String} (hd : decode cc pc = .ok (.getstatic x, 3)) (hw : Cond.fieldLink own x "ChalkCastle" nm "[I" ∈ lw_g) (hf : ∀ (G : Gh) (K : Nat → Nat) (h : hp) (U : State) (H : Heap), Sx G K h U H → Sx1 G K h U H f nm) : SOK own cc nL rt ini pc (s_gs (pc + 3) f) := by
  intro p l e R s m args below meth c G K0 d mc ms kk Q C nx hn L S h cu su st h1 h2 K Ls H locs ls hB hS hE hl hs
  obtain ⟨t, e1, e2, e3⟩ := hf _ _ _ _ _ hB.2.2.2.2.2.2.1
  have st : nx (pc + 3) L (.inr (.inr (25, hfR h f 0)) :: S) h cu su := st
  rw [e1] at st
  exact va_gets C.1 C.2.1 e3 hS C.2.2.2.1 (C.2.2.2.2.1 _ hw) (fun _ z => z) hd (hn _ _ _ _ _ _ st h1 h2 K Ls H locs ls hB hS hE hl (List.forall_mem_cons.mpr ⟨fun b hb => by cases hb; exact ⟨e2, by decide⟩, hs⟩))
theorem k_gs_IS_TOO {x : Nat} (hd : decode cc pc = .ok (.getstatic x, 3)) (hw : Cond.fieldLink own x "ChalkCastle" "IS_TOO" "[I" ∈ lw_g) : SOK own cc nL rt ini pc (s_gs (pc + 3) 9001) := k_gs hd hw (fun _ _ _ _ _ h => h.2.1)
theorem k_gs_SIZE_BODIES {x : Nat} (hd : decode cc pc = .ok (.getstatic x, 3)) (hw : Cond.fieldLink own x "ChalkCastle" "SIZE_BODIES" "[I" ∈ lw_g) : SOK own cc nL rt ini pc (s_gs (pc + 3) 9002) := k_gs hd hw (fun _ _ _ _ _ h => h.2.2.1)
theorem k_gs_MARK_BODIES {x : Nat} (hd : decode cc pc = .ok (.getstatic x, 3)) (hw : Cond.fieldLink own x "ChalkCastle" "MARK_BODIES" "[I" ∈ lw_g) : SOK own cc nL rt ini pc (s_gs (pc + 3) 9003) := k_gs hd hw (fun _ _ _ _ _ h => h.2.2.2)
end K3
/-- a new cell: the heap behind it -/
theorem hb_new {G : Gh} {K : Nat → Nat} {Ls : List Nat} {h h' : hp} {U : State} {H H1 H0 : Heap} {t : Nat} (hB : HB G K Ls h U H H0) (hH0 : H0.size ≤ H.size) (ht : t ≠ 0 ∧ t ≠ 25) (z1 : H1.size = H.size + 1) (o1 : ∀ q : Nat, q < H.size → H1[q]? = H[q]?) (hcell : va_at G.1 vwCl (H.size, Fk G h' H.size t) H1)
    (ho : ∀ b, b ≠ H.size → Fk G h' b (K b) = Fk G h b (K b)) (hz' : hz h' = H.size + 2) (hT : Ty (va_up K H.size t) h') (hX : ∀ b, b ≠ H.size → haL h' (b + 1) = haL h (b + 1) ∧ haI h' (b + 1) = haI h (b + 1)) (hR : ∀ f, hfR h' f 0 = hfR h f 0) :
    HB G (va_up K H.size t) (Ls ++ [H.size]) h' U H1 H0 ∧ Ext K (va_up K H.size t) := by
  obtain ⟨b1, b2, b3, b4, b5, b6, b7, b8⟩ := hB
  have hK0 : K H.size = 0 := by
    by_cases q : K H.size = 0
    · exact q
    · have := b4.2.2 _ q; have := b4.1; omega
  have hnot : H.size ∉ Ls := fun q => ((b5 _).mp q).1 hK0
  have e1 : va_pl (Ls ++ [H.size]) (Fh G (va_up K H.size t) h') = va_pl Ls (Fh G K h) ++ [(H.size, Fk G h' H.size t)] := by
    rw [va_pl_push hnot]
    apply va_pl_congr
    intro b
    unfold Fh
    by_cases q : b = H.size
    · subst q
      rw [va_up_self, va_up_self]
    · rw [va_up_ne _ _ q, va_up_ne _ _ q]
      exact ho b q
  have hP1 : va_P G.1 vwCl (va_pl Ls (Fh G K h)) H1 := b2.kept (fun k x hx => o1 x.1 ((b2 k x hx).lt))
  refine ⟨⟨b1, ?_, ?_, ⟨by omega, b4.2.1, fun a ha => ?_⟩, fun a => ?_, hT, ⟨fun b hb => ?_, ?_⟩, b8⟩, ?_⟩
  · rw [e1]
    refine hP1.app (fun k x hx => ?_)
    have hz : k < 1 := (List.getElem?_eq_some_iff.mp hx).1
    rw [show k = 0 by omega] at hx
    cases hx
    exact hcell
  · rw [e1]
    exact b3.push b2 rfl (Nat.le_trans b4.2.1 hH0)
  · by_cases q : a = H.size
    · omega
    · rw [va_up_ne _ _ q] at ha
      have := b4.2.2 a ha; have := b4.1; omega
  · rw [List.mem_append, List.mem_singleton]
    by_cases q : a = H.size
    · subst q
      rw [va_up_self]
      exact ⟨fun _ => ht, fun _ => Or.inr rfl⟩
    · rw [va_up_ne _ _ q]
      exact ⟨fun z => z.elim (fun z => (b5 a).mp z) (fun z => absurd z q), fun z => Or.inl ((b5 a).mpr z)⟩
  · have q : b ≠ H.size := by
      intro q
      subst q
      rw [va_up_self] at hb
      exact ht.2 hb
    rw [va_up_ne _ _ q] at hb
    rw [(hX b q).1, (hX b q).2]
    exact b7.1 b hb
  · obtain ⟨⟨y1, a1, a2, a3⟩, ⟨y2, c1, c2, c3⟩, ⟨y3, d1, d2, d3⟩⟩ := b7.2
    have g : ∀ y, K y = 25 → va_up K H.size t y = 25 := fun y hy => by rw [va_up_ne _ _ (fun q => by subst q; omega)]; exact hy
    exact ⟨⟨y1, by rw [hR]; exact a1, g _ a2, a3⟩, ⟨y2, by rw [hR]; exact c1, g _ c2, c3⟩, ⟨y3, by rw [hR]; exact d1, g _ d2, d3⟩⟩
  · intro a ha
    exact va_up_ne _ _ (fun q => ha (by rw [q]; exact hK0))
theorem warr_o {h : hp} {x n y : Nat} (hy : y ≠ x) : haL (warr h x n) y = haL h y ∧ haI (warr h x n) y = haI h y ∧ haR (warr h x n) y = haR h y := ⟨va_up_ne _ _ hy, va_up_ne _ _ hy, va_up_ne _ _ hy⟩
theorem ty_warr {K : Nat → Nat} {h : hp} {a n t : Nat} (hT : Ty K h) (hK0 : K a = 0) (ht : 20 ≤ t) : Ty (va_up K a t) (warr h (a + 1) n) := by
  obtain ⟨t1, t2, t3, t4⟩ := hT
  have hE : Ext K (va_up K a t) := fun b hb => va_up_ne _ _ (fun q => hb (by rw [q]; exact hK0))
  have hb0 : ∀ b c, c ≠ t → va_up K a t b = c → b ≠ a ∧ K b = c := by
    intro b c hc hb
    by_cases q : b = a
    · subst q
      rw [va_up_self] at hb
      exact absurd hb.symm hc
    · rw [va_up_ne _ _ q] at hb
      exact ⟨q, hb⟩
  have arr : ∀ (c e : Nat), e ≠ 0 → (∀ a j, K a = c → okr K e (haR h (a + 1) j)) → ∀ b j, va_up K a t b = c → okr (va_up K a t) e (haR (warr h (a + 1) n) (b + 1) j) := by
    intro c e he hc b j hb
    by_cases q : b = a
    · subst q
      show okr _ e (va_up h.2.2.2.2.1 (b + 1) (fun _ => 0) (b + 1) j)
      rw [va_up_self]
      intro z hz; omega
    · rw [va_up_ne _ _ q] at hb
      rw [(warr_o (h := h) (n := n) (show b + 1 ≠ a + 1 by omega)).2.2]
      exact ty_ext he hE (hc b j hb)
  refine ⟨fun b ci k hb hk => ?_, arr 22 2 (by omega) t2, arr 23 4 (by omega) t3, arr 24 6 (by omega) t4⟩
  by_cases q : b = a
  · subst q
    rw [va_up_self] at hb
    exfalso
    apply hk
    have : 8 ≤ ci := by omega
    unfold frt
    have e : frT[ci]? = none := List.getElem?_eq_none (show 8 ≤ ci from this)
    rw [e]
    rfl
  · rw [va_up_ne _ _ q] at hb
    exact ty_ext hk hE (t1 b ci k hb hk)
theorem wobj_o {h : hp} {x y ci j : Nat} (hy : y ≠ x) : fval (wobj h x) y ci j = fval h y ci j := by
  unfold fval
  show (if frt ci j = 0 then Value.int (if y = x then 0 else h.1 _ y) else rv (if y = x then 0 else h.2.1 _ y)) = _
  rw [if_neg hy, if_neg hy]
  rfl
theorem ty_wobj {K : Nat → Nat} {h : hp} {a t : Nat} (hT : Ty K h) (hK0 : K a = 0) (ht : t < 20) : Ty (va_up K a t) (wobj h (a + 1)) := by
  obtain ⟨t1, t2, t3, t4⟩ := hT
  have hE : Ext K (va_up K a t) := fun b hb => va_up_ne _ _ (fun q => hb (by rw [q]; exact hK0))
  have arr : ∀ (c e : Nat), 20 ≤ c → e ≠ 0 → (∀ a j, K a = c → okr K e (haR h (a + 1) j)) → ∀ b j, va_up K a t b = c → okr (va_up K a t) e (haR (wobj h (a + 1)) (b + 1) j) := by
    intro c e hc0 he hc b j hb
    by_cases q : b = a
    · subst q
      rw [va_up_self] at hb
      omega
    · rw [va_up_ne _ _ q] at hb
      exact ty_ext he hE (hc b j hb)
  refine ⟨fun b ci k hb hk => ?_, arr 22 2 (by omega) (by omega) t2, arr 23 4 (by omega) (by omega) t3, arr 24 6 (by omega) (by omega) t4⟩
  show okr _ _ (if b + 1 = a + 1 then 0 else h.2.1 _ (b + 1))
  by_cases q : b = a
  · rw [if_pos (by omega)]
    intro z hz; omega
  · rw [va_up_ne _ _ q] at hb
    rw [if_neg (by omega)]
    exact ty_ext hk hE (t1 b ci k hb hk)
section K4
variable {own : String} {cc : ByteArray} {nL : Nat} {rt : Option FieldType} {ini : Bool} {pc : Nat}
theorem hb_K0 {G : Gh} {K : Nat → Nat} {Ls : List Nat} {h : hp} {U : State} {H H0 : Heap} (hB : HB G K Ls h U H H0) : K H.size = 0 := by
  by_cases q : K H.size = 0
  · exact q
  · have := hB.2.2.2.1.2.2 _ q; have := hB.2.2.2.1.1; omega
theorem i1000 {k : Int32} (h0 : ¬ k < 0) (h1 : k ≤ 1000) : k.toNatClampNeg ≤ 1000 := by
  obtain ⟨j, hj, rfl⟩ := nI_of2 (n := 1000) (by decide) h0 h1
  rw [nI_clamp (by omega)]
  exact hj
theorem k_newp {t : Nat} {ix : Nat} {at' : ArrayType} {ty : FieldType} (hd : decode cc pc = .ok (.newarray at', 2)) (hty : newarray.typeOf at' = ty) (htr : ∀ U cA, va_RA U cA ty = (U.vm.findClass ("[" ++ ty.toString) = some cA)) (hw : Cond.arrayClass ty ∈ lw_g) (hix : ∀ G, (gty G)[ix]? = some (G.2.1 ix, ty)) (ht : 20 ≤ t ∧ t ≠ 25) (hb : componentBytes ty ≤ 8) (hdv : defaultValue ty = .int 0)
    (hF : ∀ (G : Gh) (h : hp) (a : Nat), Fk G h a t = .inl (G.2.1 ix, haL h (a + 1), .inl (haI h (a + 1)))) : SOK own cc nL rt ini pc (s_newa (pc + 2) t) := by
  intro p l e R s m args below meth c G K0 d mc ms kk Q C nx hn L S h cu su st h1 h2 K Ls H locs ls hB hS hE hl hs
  unfold s_newa at st
  split at st
  · next k S' =>
    obtain ⟨⟨g1, g2⟩, ⟨g3, g4⟩, st⟩ := st
    have hs2 := (List.forall_mem_cons.mp hs).2
    have hk := i1000 g1 g2
    subst hty
    refine va_newaK C.1 C.2.1 (C.2.2.2.2.1 _ hw) rfl hd rfl g1 rfl (Nat.le_trans (Nat.mul_le_mul hk hb) (by decide)) (Nat.le_trans g3 C.2.2.2.2.2.1.2.2.1) (Nat.le_trans g4 C.2.2.2.2.2.1.2.2.2) rfl (fun H1 cA e1 z1 o1 hAr hNm => ?_)
    have hcA : cA = G.2.1 ix := by
      have := (hB.1.2 ix _ (hix G)).2
      rw [htr] at this
      exact Option.some.inj (hNm.symm.trans this)
    have hK0 := hb_K0 hB
    obtain ⟨n1, n2⟩ := hb_new (h' := warr h (H.size + 1) k.toNatClampNeg) (t := t) hB hS.1 ⟨by omega, ht.2⟩ z1 o1 (by
        rw [hF]
        show H1[H.size]? = some (vp_cell (G.2.1 ix) (va_up h.2.2.2.1 (H.size + 1) k.toNatClampNeg (H.size + 1), .inl (va_up h.2.2.1 (H.size + 1) (fun _ => 0) (H.size + 1))))
        rw [va_up_self, va_up_self, e1, hcA, hdv]
        rfl) (fun b hb => by
        have w := warr_o (h := h) (n := k.toNatClampNeg) (show b + 1 ≠ H.size + 1 by omega)
        exact Fk_congr w.1 w.2.1 w.2.2 (fun _ _ => rfl)) rfl (ty_warr hB.2.2.2.2.2.1 hK0 ht.1) (fun b hb => by
        have w := warr_o (h := h) (n := k.toNatClampNeg) (show b + 1 ≠ H.size + 1 by omega)
        exact ⟨w.1, w.2.1⟩) (fun _ => rfl)
    have hok : ∀ v, okv K v → okv (va_up K H.size t) v := fun v hv => okv_ext n2 hv
    exact hn _ _ _ _ _ _ (st (H.size + 1) hB.2.2.2.1.1) (by omega) (by omega) _ _ H1 locs ls n1 ⟨Nat.le_trans hS.1 (by omega), fun x q1 q2 => (o1 x (Nat.lt_of_lt_of_le q1 hS.1)).trans (hS.2.1 x q1 q2), hS.2.2⟩ (hE.tr n2) (lrel_ext hok hl) (List.forall_mem_cons.mpr ⟨fun b hb => by cases hb; exact ⟨va_up_self _ _ _, by omega⟩, fun v hv => hok v (hs2 v hv)⟩)
  · exact st.elim
end K4
