/-! ===== the reference: a new one ===== -/
def MNI (h h' : hp) (x : Nat) : Prop := EXn h h' x ∧ MSh h' x ∧ ZX h' x ∧ (∀ f ∈ MF, hz h ≤ hfR h' f x ∧ hfR h' f x < hz h') ∧ (∀ f ∈ MF, f ≠ 701 → haI h' (hfR h' f x) = zf) ∧ (∀ r, r < 8 → haI h' (hfR h' 701 x) r = -1)
theorem step_arr7 {h : hp} {K : Nat → Nat} {x a m f s : Nat} {A : Nat → Prop} (hx : x < hz h) (ha : hz h ≤ a) (h0 : ZX h x) (h' : hp) (e : h' = wfR (warr h a m) f x a) (ha0 : a ≠ 0) : GX h K h' (upK K a s) x A ∧ XF h h' x f a ∧ ZX h' x ∧ AR h' (upK K a s) a s m ∧ haI h' a = zf ∧ haR h' a = (fun _ => 0) ∧ hz h' = a + 1 := by
  obtain ⟨q1, q2, q3, q4, q5⟩ := step_arr (K := K) (A := A) (s := s) hx ha h0 h' e ha0
  refine ⟨q1, q2, q3, q4, ?_, ?_, q5⟩
  · rw [e]; exact va_up_self _ _ _
  · rw [e]; exact va_up_self _ _ _
theorem inc_lt {a : Nat → Nat} {n : Nat} (h : ∀ i, i + 1 < n → a i < a (i + 1)) : ∀ (k i : Nat), i + k + 1 < n → a i < a (i + k + 1)
  | 0, i, hi => h i hi
  | k + 1, i, hi => Nat.lt_trans (inc_lt h k i (by omega)) (h (i + k + 1) hi)
theorem inc_inj {a : Nat → Nat} {n : Nat} (h : ∀ i, i + 1 < n → a i < a (i + 1)) {i j : Nat} (hi : i < n) (hj : j < n) (e : a i = a j) : i = j := by
  apply Classical.byContradiction
  intro hne
  by_cases c : i < j
  · have := inc_lt h (j - i - 1) i (by omega)
    rw [show i + (j - i - 1) + 1 = j by omega] at this
    omega
  · have := inc_lt h (i - j - 1) j (by omega)
    rw [show j + (i - j - 1) + 1 = i by omega] at this
    omega
theorem waI_id (h : hp) (a : Nat) : waI h a (haI h a) = h := by
  unfold waI
  refine Prod.ext rfl (Prod.ext rfl (Prod.ext ?_ rfl))
  exact up_id h.2.2.1 a
theorem waI_waI (h : hp) (a : Nat) (g g' : Nat → Int32) : waI (waI h a g) a g' = waI h a g' := by
  unfold waI
  refine Prod.ext rfl (Prod.ext rfl (Prod.ext ?_ rfl))
  exact bx_uu _ _ _ _
abbrev mfA (i : Nat) : Nat := MF.getD i 0
theorem mfA_of : ∀ f ∈ MF, ∃ i, i < 23 ∧ mfA i = f := by decide
set_option maxRecDepth 20000 in
theorem m_init {d x : Nat} {h : hp} {kk : Rt} (hx : x + 1 < hz h) (h0 : ZX h (x + 1)) (hk : ∀ h', MNI h h' (x + 1) → kk none h') : CL (d + 1) mX7_init 23 958 [.inr (.inr (8, x + 1))] h kk := by
  obtain ⟨K0, hK0⟩ : ∃ K0 : Nat → Nat, K0 = fun _ => 500 := ⟨_, rfl⟩
  have x0 : x + 1 < hz h := hx
  have z0 := h0
  refine mw T_X7_init (fun Wm go => go (cut1 12) 60 0 _ _ _ _ _ ?_)
  refine And.intro ⟨by decide, by decide⟩ (And.intro ⟨by decide, by decide⟩ (fun a1 ha1 => ?_))
  have ha1 : hz h ≤ a1 := ha1
  obtain ⟨h1, e1⟩ : ∃ h1 : hp, h1 = wfR (warr h a1 8) 701 (x + 1) a1 := ⟨_, rfl⟩
  obtain ⟨g1, f1, z1, r1, rz1, -, hh1⟩ := step_arr7 (K := K0) (A := fun w => w = x + 1) (s := 500) x0 ha1 z0 h1 e1 (by omega)
  generalize upK K0 a1 500 = K1 at *
  have x1 : x + 1 < hz h1 := Nat.lt_of_lt_of_le x0 g1.1
  refine wmk (Wm := Wm) (L' := [some (.inr (.inr (8, x + 1))), none]) (S' := []) (h' := h1) (cu' := 1) (su' := 8) ?_ rfl rfl e1.symm rfl rfl
  clear e1
  refine go (cut1 20) 60 12 _ _ _ _ _ ?_
  refine And.intro ⟨by decide, by decide⟩ (And.intro ⟨by decide, by decide⟩ (fun a2 ha2 => ?_))
  have ha2 : hz h1 ≤ a2 := ha2
  obtain ⟨h2, e2⟩ : ∃ h2 : hp, h2 = wfR (warr h1 a2 8) 702 (x + 1) a2 := ⟨_, rfl⟩
  obtain ⟨g2, f2, z2, r2, rz2, -, hh2⟩ := step_arr7 (K := K1) (A := fun w => w = x + 1) (s := 500) x1 ha2 z1 h2 e2 (by omega)
  generalize upK K1 a2 500 = K2 at *
  have x2 : x + 1 < hz h2 := Nat.lt_of_lt_of_le x1 g2.1
  refine wmk (Wm := Wm) (L' := [some (.inr (.inr (8, x + 1))), none]) (S' := []) (h' := h2) (cu' := 2) (su' := 16) ?_ rfl rfl e2.symm rfl rfl
  clear e2
  refine go (cut1 29) 60 20 _ _ _ _ _ ?_
  refine And.intro ⟨by decide, by decide⟩ (And.intro ⟨by decide, by decide⟩ (fun a3 ha3 => ?_))
  have ha3 : hz h2 ≤ a3 := ha3
  obtain ⟨h3, e3⟩ : ∃ h3 : hp, h3 = wfR (warr h2 a3 320) 703 (x + 1) a3 := ⟨_, rfl⟩
  obtain ⟨g3, f3, z3, r3, rz3, -, hh3⟩ := step_arr7 (K := K2) (A := fun w => w = x + 1) (s := 500) x2 ha3 z2 h3 e3 (by omega)
  generalize upK K2 a3 500 = K3 at *
  have x3 : x + 1 < hz h3 := Nat.lt_of_lt_of_le x2 g3.1
  refine wmk (Wm := Wm) (L' := [some (.inr (.inr (8, x + 1))), none]) (S' := []) (h' := h3) (cu' := 3) (su' := 336) ?_ rfl rfl e3.symm rfl rfl
  clear e3
  refine go (cut1 37) 60 29 _ _ _ _ _ ?_
  refine And.intro ⟨by decide, by decide⟩ (And.intro ⟨by decide, by decide⟩ (fun a4 ha4 => ?_))
  have ha4 : hz h3 ≤ a4 := ha4
  obtain ⟨h4, e4⟩ : ∃ h4 : hp, h4 = wfR (warr h3 a4 120) 705 (x + 1) a4 := ⟨_, rfl⟩
  obtain ⟨g4, f4, z4, r4, rz4, -, hh4⟩ := step_arr7 (K := K3) (A := fun w => w = x + 1) (s := 500) x3 ha4 z3 h4 e4 (by omega)
  generalize upK K3 a4 500 = K4 at *
  have x4 : x + 1 < hz h4 := Nat.lt_of_lt_of_le x3 g4.1
  refine wmk (Wm := Wm) (L' := [some (.inr (.inr (8, x + 1))), none]) (S' := []) (h' := h4) (cu' := 4) (su' := 456) ?_ rfl rfl e4.symm rfl rfl
  clear e4
  refine go (cut1 45) 60 37 _ _ _ _ _ ?_
  refine And.intro ⟨by decide, by decide⟩ (And.intro ⟨by decide, by decide⟩ (fun a5 ha5 => ?_))
  have ha5 : hz h4 ≤ a5 := ha5
  obtain ⟨h5, e5⟩ : ∃ h5 : hp, h5 = wfR (warr h4 a5 8) 712 (x + 1) a5 := ⟨_, rfl⟩
  obtain ⟨g5, f5, z5, r5, rz5, -, hh5⟩ := step_arr7 (K := K4) (A := fun w => w = x + 1) (s := 500) x4 ha5 z4 h5 e5 (by omega)
  generalize upK K4 a5 500 = K5 at *
  have x5 : x + 1 < hz h5 := Nat.lt_of_lt_of_le x4 g5.1
  refine wmk (Wm := Wm) (L' := [some (.inr (.inr (8, x + 1))), none]) (S' := []) (h' := h5) (cu' := 5) (su' := 464) ?_ rfl rfl e5.symm rfl rfl
  clear e5
  refine go (cut1 52) 60 45 _ _ _ _ _ ?_
  refine And.intro ⟨by decide, by decide⟩ (And.intro ⟨by decide, by decide⟩ (fun a6 ha6 => ?_))
  have ha6 : hz h5 ≤ a6 := ha6
  obtain ⟨h6, e6⟩ : ∃ h6 : hp, h6 = wfR (warr h5 a6 4) 713 (x + 1) a6 := ⟨_, rfl⟩
  obtain ⟨g6, f6, z6, r6, rz6, -, hh6⟩ := step_arr7 (K := K5) (A := fun w => w = x + 1) (s := 500) x5 ha6 z5 h6 e6 (by omega)
  generalize upK K5 a6 500 = K6 at *
  have x6 : x + 1 < hz h6 := Nat.lt_of_lt_of_le x5 g6.1
  refine wmk (Wm := Wm) (L' := [some (.inr (.inr (8, x + 1))), none]) (S' := []) (h' := h6) (cu' := 6) (su' := 468) ?_ rfl rfl e6.symm rfl rfl
  clear e6
  refine go (cut1 59) 60 52 _ _ _ _ _ ?_
  refine And.intro ⟨by decide, by decide⟩ (And.intro ⟨by decide, by decide⟩ (fun a7 ha7 => ?_))
  have ha7 : hz h6 ≤ a7 := ha7
  obtain ⟨h7, e7⟩ : ∃ h7 : hp, h7 = wfR (warr h6 a7 4) 714 (x + 1) a7 := ⟨_, rfl⟩
  obtain ⟨g7, f7, z7, r7, rz7, -, hh7⟩ := step_arr7 (K := K6) (A := fun w => w = x + 1) (s := 500) x6 ha7 z6 h7 e7 (by omega)
  generalize upK K6 a7 500 = K7 at *
  have x7 : x + 1 < hz h7 := Nat.lt_of_lt_of_le x6 g7.1
  refine wmk (Wm := Wm) (L' := [some (.inr (.inr (8, x + 1))), none]) (S' := []) (h' := h7) (cu' := 7) (su' := 472) ?_ rfl rfl e7.symm rfl rfl
  clear e7
  refine go (cut1 67) 60 59 _ _ _ _ _ ?_
  refine And.intro ⟨by decide, by decide⟩ (And.intro ⟨by decide, by decide⟩ (fun a8 ha8 => ?_))
  have ha8 : hz h7 ≤ a8 := ha8
  obtain ⟨h8, e8⟩ : ∃ h8 : hp, h8 = wfR (warr h7 a8 14) 715 (x + 1) a8 := ⟨_, rfl⟩
  obtain ⟨g8, f8, z8, r8, rz8, -, hh8⟩ := step_arr7 (K := K7) (A := fun w => w = x + 1) (s := 500) x7 ha8 z7 h8 e8 (by omega)
  generalize upK K7 a8 500 = K8 at *
  have x8 : x + 1 < hz h8 := Nat.lt_of_lt_of_le x7 g8.1
  refine wmk (Wm := Wm) (L' := [some (.inr (.inr (8, x + 1))), none]) (S' := []) (h' := h8) (cu' := 8) (su' := 486) ?_ rfl rfl e8.symm rfl rfl
  clear e8
  refine go (cut1 75) 60 67 _ _ _ _ _ ?_
  refine And.intro ⟨by decide, by decide⟩ (And.intro ⟨by decide, by decide⟩ (fun a9 ha9 => ?_))
  have ha9 : hz h8 ≤ a9 := ha9
  obtain ⟨h9, e9⟩ : ∃ h9 : hp, h9 = wfR (warr h8 a9 14) 716 (x + 1) a9 := ⟨_, rfl⟩
  obtain ⟨g9, f9, z9, r9, rz9, -, hh9⟩ := step_arr7 (K := K8) (A := fun w => w = x + 1) (s := 500) x8 ha9 z8 h9 e9 (by omega)
  generalize upK K8 a9 500 = K9 at *
  have x9 : x + 1 < hz h9 := Nat.lt_of_lt_of_le x8 g9.1
  refine wmk (Wm := Wm) (L' := [some (.inr (.inr (8, x + 1))), none]) (S' := []) (h' := h9) (cu' := 9) (su' := 500) ?_ rfl rfl e9.symm rfl rfl
  clear e9
  refine go (cut1 82) 60 75 _ _ _ _ _ ?_
  refine And.intro ⟨by decide, by decide⟩ (And.intro ⟨by decide, by decide⟩ (fun a10 ha10 => ?_))
  have ha10 : hz h9 ≤ a10 := ha10
  obtain ⟨h10, e10⟩ : ∃ h10 : hp, h10 = wfR (warr h9 a10 2) 722 (x + 1) a10 := ⟨_, rfl⟩
  obtain ⟨g10, f10, z10, r10, rz10, -, hh10⟩ := step_arr7 (K := K9) (A := fun w => w = x + 1) (s := 500) x9 ha10 z9 h10 e10 (by omega)
  generalize upK K9 a10 500 = K10 at *
  have x10 : x + 1 < hz h10 := Nat.lt_of_lt_of_le x9 g10.1
  refine wmk (Wm := Wm) (L' := [some (.inr (.inr (8, x + 1))), none]) (S' := []) (h' := h10) (cu' := 10) (su' := 502) ?_ rfl rfl e10.symm rfl rfl
  clear e10
  refine go (cut1 90) 60 82 _ _ _ _ _ ?_
  refine And.intro ⟨by decide, by decide⟩ (And.intro ⟨by decide, by decide⟩ (fun a11 ha11 => ?_))
  have ha11 : hz h10 ≤ a11 := ha11
  obtain ⟨h11, e11⟩ : ∃ h11 : hp, h11 = wfR (warr h10 a11 8) 723 (x + 1) a11 := ⟨_, rfl⟩
  obtain ⟨g11, f11, z11, r11, rz11, -, hh11⟩ := step_arr7 (K := K10) (A := fun w => w = x + 1) (s := 500) x10 ha11 z10 h11 e11 (by omega)
  generalize upK K10 a11 500 = K11 at *
  have x11 : x + 1 < hz h11 := Nat.lt_of_lt_of_le x10 g11.1
  refine wmk (Wm := Wm) (L' := [some (.inr (.inr (8, x + 1))), none]) (S' := []) (h' := h11) (cu' := 11) (su' := 510) ?_ rfl rfl e11.symm rfl rfl
  clear e11
  refine go (cut1 98) 60 90 _ _ _ _ _ ?_
  refine And.intro ⟨by decide, by decide⟩ (And.intro ⟨by decide, by decide⟩ (fun a12 ha12 => ?_))
  have ha12 : hz h11 ≤ a12 := ha12
  obtain ⟨h12, e12⟩ : ∃ h12 : hp, h12 = wfR (warr h11 a12 8) 724 (x + 1) a12 := ⟨_, rfl⟩
  obtain ⟨g12, f12, z12, r12, rz12, -, hh12⟩ := step_arr7 (K := K11) (A := fun w => w = x + 1) (s := 500) x11 ha12 z11 h12 e12 (by omega)
  generalize upK K11 a12 500 = K12 at *
  have x12 : x + 1 < hz h12 := Nat.lt_of_lt_of_le x11 g12.1
  refine wmk (Wm := Wm) (L' := [some (.inr (.inr (8, x + 1))), none]) (S' := []) (h' := h12) (cu' := 12) (su' := 518) ?_ rfl rfl e12.symm rfl rfl
  clear e12
  refine go (cut1 105) 60 98 _ _ _ _ _ ?_
  refine And.intro ⟨by decide, by decide⟩ (And.intro ⟨by decide, by decide⟩ (fun a13 ha13 => ?_))
  have ha13 : hz h12 ≤ a13 := ha13
  obtain ⟨h13, e13⟩ : ∃ h13 : hp, h13 = wfR (warr h12 a13 4) 725 (x + 1) a13 := ⟨_, rfl⟩
  obtain ⟨g13, f13, z13, r13, rz13, -, hh13⟩ := step_arr7 (K := K12) (A := fun w => w = x + 1) (s := 500) x12 ha13 z12 h13 e13 (by omega)
  generalize upK K12 a13 500 = K13 at *
  have x13 : x + 1 < hz h13 := Nat.lt_of_lt_of_le x12 g13.1
  refine wmk (Wm := Wm) (L' := [some (.inr (.inr (8, x + 1))), none]) (S' := []) (h' := h13) (cu' := 13) (su' := 522) ?_ rfl rfl e13.symm rfl rfl
  clear e13
  refine go (cut1 112) 60 105 _ _ _ _ _ ?_
  refine And.intro ⟨by decide, by decide⟩ (And.intro ⟨by decide, by decide⟩ (fun a14 ha14 => ?_))
  have ha14 : hz h13 ≤ a14 := ha14
  obtain ⟨h14, e14⟩ : ∃ h14 : hp, h14 = wfR (warr h13 a14 4) 726 (x + 1) a14 := ⟨_, rfl⟩
  obtain ⟨g14, f14, z14, r14, rz14, -, hh14⟩ := step_arr7 (K := K13) (A := fun w => w = x + 1) (s := 500) x13 ha14 z13 h14 e14 (by omega)
  generalize upK K13 a14 500 = K14 at *
  have x14 : x + 1 < hz h14 := Nat.lt_of_lt_of_le x13 g14.1
  refine wmk (Wm := Wm) (L' := [some (.inr (.inr (8, x + 1))), none]) (S' := []) (h' := h14) (cu' := 14) (su' := 526) ?_ rfl rfl e14.symm rfl rfl
  clear e14
  refine go (cut1 121) 60 112 _ _ _ _ _ ?_
  refine And.intro ⟨by decide, by decide⟩ (And.intro ⟨by decide, by decide⟩ (fun a15 ha15 => ?_))
  have ha15 : hz h14 ≤ a15 := ha15
  obtain ⟨h15, e15⟩ : ∃ h15 : hp, h15 = wfR (warr h14 a15 336) 729 (x + 1) a15 := ⟨_, rfl⟩
  obtain ⟨g15, f15, z15, r15, rz15, -, hh15⟩ := step_arr7 (K := K14) (A := fun w => w = x + 1) (s := 500) x14 ha15 z14 h15 e15 (by omega)
  generalize upK K14 a15 500 = K15 at *
  have x15 : x + 1 < hz h15 := Nat.lt_of_lt_of_le x14 g15.1
  refine wmk (Wm := Wm) (L' := [some (.inr (.inr (8, x + 1))), none]) (S' := []) (h' := h15) (cu' := 15) (su' := 862) ?_ rfl rfl e15.symm rfl rfl
  clear e15
  refine go (cut1 129) 60 121 _ _ _ _ _ ?_
  refine And.intro ⟨by decide, by decide⟩ (And.intro ⟨by decide, by decide⟩ (fun a16 ha16 => ?_))
  have ha16 : hz h15 ≤ a16 := ha16
  obtain ⟨h16, e16⟩ : ∃ h16 : hp, h16 = wfR (warr h15 a16 8) 730 (x + 1) a16 := ⟨_, rfl⟩
  obtain ⟨g16, f16, z16, r16, rz16, -, hh16⟩ := step_arr7 (K := K15) (A := fun w => w = x + 1) (s := 500) x15 ha16 z15 h16 e16 (by omega)
  generalize upK K15 a16 500 = K16 at *
  have x16 : x + 1 < hz h16 := Nat.lt_of_lt_of_le x15 g16.1
  refine wmk (Wm := Wm) (L' := [some (.inr (.inr (8, x + 1))), none]) (S' := []) (h' := h16) (cu' := 16) (su' := 870) ?_ rfl rfl e16.symm rfl rfl
  clear e16
  refine go (cut1 136) 60 129 _ _ _ _ _ ?_
  refine And.intro ⟨by decide, by decide⟩ (And.intro ⟨by decide, by decide⟩ (fun a17 ha17 => ?_))
  have ha17 : hz h16 ≤ a17 := ha17
  obtain ⟨h17, e17⟩ : ∃ h17 : hp, h17 = wfR (warr h16 a17 2) 731 (x + 1) a17 := ⟨_, rfl⟩
  obtain ⟨g17, f17, z17, r17, rz17, -, hh17⟩ := step_arr7 (K := K16) (A := fun w => w = x + 1) (s := 500) x16 ha17 z16 h17 e17 (by omega)
  generalize upK K16 a17 500 = K17 at *
  have x17 : x + 1 < hz h17 := Nat.lt_of_lt_of_le x16 g17.1
  refine wmk (Wm := Wm) (L' := [some (.inr (.inr (8, x + 1))), none]) (S' := []) (h' := h17) (cu' := 17) (su' := 872) ?_ rfl rfl e17.symm rfl rfl
  clear e17
  refine go (cut1 144) 60 136 _ _ _ _ _ ?_
  refine And.intro ⟨by decide, by decide⟩ (And.intro ⟨by decide, by decide⟩ (fun a18 ha18 => ?_))
  have ha18 : hz h17 ≤ a18 := ha18
  obtain ⟨h18, e18⟩ : ∃ h18 : hp, h18 = wfR (warr h17 a18 10) 732 (x + 1) a18 := ⟨_, rfl⟩
  obtain ⟨g18, f18, z18, r18, rz18, -, hh18⟩ := step_arr7 (K := K17) (A := fun w => w = x + 1) (s := 500) x17 ha18 z17 h18 e18 (by omega)
  generalize upK K17 a18 500 = K18 at *
  have x18 : x + 1 < hz h18 := Nat.lt_of_lt_of_le x17 g18.1
  refine wmk (Wm := Wm) (L' := [some (.inr (.inr (8, x + 1))), none]) (S' := []) (h' := h18) (cu' := 18) (su' := 882) ?_ rfl rfl e18.symm rfl rfl
  clear e18
  refine go (cut1 152) 60 144 _ _ _ _ _ ?_
  refine And.intro ⟨by decide, by decide⟩ (And.intro ⟨by decide, by decide⟩ (fun a19 ha19 => ?_))
  have ha19 : hz h18 ≤ a19 := ha19
  obtain ⟨h19, e19⟩ : ∃ h19 : hp, h19 = wfR (warr h18 a19 16) 733 (x + 1) a19 := ⟨_, rfl⟩
  obtain ⟨g19, f19, z19, r19, rz19, -, hh19⟩ := step_arr7 (K := K18) (A := fun w => w = x + 1) (s := 500) x18 ha19 z18 h19 e19 (by omega)
  generalize upK K18 a19 500 = K19 at *
  have x19 : x + 1 < hz h19 := Nat.lt_of_lt_of_le x18 g19.1
  refine wmk (Wm := Wm) (L' := [some (.inr (.inr (8, x + 1))), none]) (S' := []) (h' := h19) (cu' := 19) (su' := 898) ?_ rfl rfl e19.symm rfl rfl
  clear e19
  refine go (cut1 160) 60 152 _ _ _ _ _ ?_
  refine And.intro ⟨by decide, by decide⟩ (And.intro ⟨by decide, by decide⟩ (fun a20 ha20 => ?_))
  have ha20 : hz h19 ≤ a20 := ha20
  obtain ⟨h20, e20⟩ : ∃ h20 : hp, h20 = wfR (warr h19 a20 8) 734 (x + 1) a20 := ⟨_, rfl⟩
  obtain ⟨g20, f20, z20, r20, rz20, -, hh20⟩ := step_arr7 (K := K19) (A := fun w => w = x + 1) (s := 500) x19 ha20 z19 h20 e20 (by omega)
  generalize upK K19 a20 500 = K20 at *
  have x20 : x + 1 < hz h20 := Nat.lt_of_lt_of_le x19 g20.1
  refine wmk (Wm := Wm) (L' := [some (.inr (.inr (8, x + 1))), none]) (S' := []) (h' := h20) (cu' := 20) (su' := 906) ?_ rfl rfl e20.symm rfl rfl
  clear e20
  refine go (cut1 168) 60 160 _ _ _ _ _ ?_
  refine And.intro ⟨by decide, by decide⟩ (And.intro ⟨by decide, by decide⟩ (fun a21 ha21 => ?_))
  have ha21 : hz h20 ≤ a21 := ha21
  obtain ⟨h21, e21⟩ : ∃ h21 : hp, h21 = wfR (warr h20 a21 8) 735 (x + 1) a21 := ⟨_, rfl⟩
  obtain ⟨g21, f21, z21, r21, rz21, -, hh21⟩ := step_arr7 (K := K20) (A := fun w => w = x + 1) (s := 500) x20 ha21 z20 h21 e21 (by omega)
  generalize upK K20 a21 500 = K21 at *
  have x21 : x + 1 < hz h21 := Nat.lt_of_lt_of_le x20 g21.1
  refine wmk (Wm := Wm) (L' := [some (.inr (.inr (8, x + 1))), none]) (S' := []) (h' := h21) (cu' := 21) (su' := 914) ?_ rfl rfl e21.symm rfl rfl
  clear e21
  refine go (cut1 176) 60 168 _ _ _ _ _ ?_
  refine And.intro ⟨by decide, by decide⟩ (And.intro ⟨by decide, by decide⟩ (fun a22 ha22 => ?_))
  have ha22 : hz h21 ≤ a22 := ha22
  obtain ⟨h22, e22⟩ : ∃ h22 : hp, h22 = wfR (warr h21 a22 28) 736 (x + 1) a22 := ⟨_, rfl⟩
  obtain ⟨g22, f22, z22, r22, rz22, -, hh22⟩ := step_arr7 (K := K21) (A := fun w => w = x + 1) (s := 500) x21 ha22 z21 h22 e22 (by omega)
  generalize upK K21 a22 500 = K22 at *
  have x22 : x + 1 < hz h22 := Nat.lt_of_lt_of_le x21 g22.1
  refine wmk (Wm := Wm) (L' := [some (.inr (.inr (8, x + 1))), none]) (S' := []) (h' := h22) (cu' := 22) (su' := 942) ?_ rfl rfl e22.symm rfl rfl
  clear e22
  refine go (cut1 184) 60 176 _ _ _ _ _ ?_
  refine And.intro ⟨by decide, by decide⟩ (And.intro ⟨by decide, by decide⟩ (fun a23 ha23 => ?_))
  have ha23 : hz h22 ≤ a23 := ha23
  obtain ⟨h23, e23⟩ : ∃ h23 : hp, h23 = wfR (warr h22 a23 16) 738 (x + 1) a23 := ⟨_, rfl⟩
  obtain ⟨g23, f23, z23, r23, rz23, -, hh23⟩ := step_arr7 (K := K22) (A := fun w => w = x + 1) (s := 500) x22 ha23 z22 h23 e23 (by omega)
  generalize upK K22 a23 500 = K23 at *
  have x23 : x + 1 < hz h23 := Nat.lt_of_lt_of_le x22 g23.1
  refine wmk (Wm := Wm) (L' := [some (.inr (.inr (8, x + 1))), none]) (S' := []) (h' := h23) (cu' := 23) (su' := 958) ?_ rfl rfl e23.symm rfl rfl
  clear e23
  have w701 : hfR h23 701 (x + 1) = a1 := by rw [f23.1 701 (by decide), f22.1 701 (by decide), f21.1 701 (by decide), f20.1 701 (by decide), f19.1 701 (by decide), f18.1 701 (by decide), f17.1 701 (by decide), f16.1 701 (by decide), f15.1 701 (by decide), f14.1 701 (by decide), f13.1 701 (by decide), f12.1 701 (by decide), f11.1 701 (by decide), f10.1 701 (by decide), f9.1 701 (by decide), f8.1 701 (by decide), f7.1 701 (by decide), f6.1 701 (by decide), f5.1 701 (by decide), f4.1 701 (by decide), f3.1 701 (by decide), f2.1 701 (by decide)]; exact f1.2
  have w702 : hfR h23 702 (x + 1) = a2 := by rw [f23.1 702 (by decide), f22.1 702 (by decide), f21.1 702 (by decide), f20.1 702 (by decide), f19.1 702 (by decide), f18.1 702 (by decide), f17.1 702 (by decide), f16.1 702 (by decide), f15.1 702 (by decide), f14.1 702 (by decide), f13.1 702 (by decide), f12.1 702 (by decide), f11.1 702 (by decide), f10.1 702 (by decide), f9.1 702 (by decide), f8.1 702 (by decide), f7.1 702 (by decide), f6.1 702 (by decide), f5.1 702 (by decide), f4.1 702 (by decide), f3.1 702 (by decide)]; exact f2.2
  have w703 : hfR h23 703 (x + 1) = a3 := by rw [f23.1 703 (by decide), f22.1 703 (by decide), f21.1 703 (by decide), f20.1 703 (by decide), f19.1 703 (by decide), f18.1 703 (by decide), f17.1 703 (by decide), f16.1 703 (by decide), f15.1 703 (by decide), f14.1 703 (by decide), f13.1 703 (by decide), f12.1 703 (by decide), f11.1 703 (by decide), f10.1 703 (by decide), f9.1 703 (by decide), f8.1 703 (by decide), f7.1 703 (by decide), f6.1 703 (by decide), f5.1 703 (by decide), f4.1 703 (by decide)]; exact f3.2
  have w705 : hfR h23 705 (x + 1) = a4 := by rw [f23.1 705 (by decide), f22.1 705 (by decide), f21.1 705 (by decide), f20.1 705 (by decide), f19.1 705 (by decide), f18.1 705 (by decide), f17.1 705 (by decide), f16.1 705 (by decide), f15.1 705 (by decide), f14.1 705 (by decide), f13.1 705 (by decide), f12.1 705 (by decide), f11.1 705 (by decide), f10.1 705 (by decide), f9.1 705 (by decide), f8.1 705 (by decide), f7.1 705 (by decide), f6.1 705 (by decide), f5.1 705 (by decide)]; exact f4.2
  have w712 : hfR h23 712 (x + 1) = a5 := by rw [f23.1 712 (by decide), f22.1 712 (by decide), f21.1 712 (by decide), f20.1 712 (by decide), f19.1 712 (by decide), f18.1 712 (by decide), f17.1 712 (by decide), f16.1 712 (by decide), f15.1 712 (by decide), f14.1 712 (by decide), f13.1 712 (by decide), f12.1 712 (by decide), f11.1 712 (by decide), f10.1 712 (by decide), f9.1 712 (by decide), f8.1 712 (by decide), f7.1 712 (by decide), f6.1 712 (by decide)]; exact f5.2
  have w713 : hfR h23 713 (x + 1) = a6 := by rw [f23.1 713 (by decide), f22.1 713 (by decide), f21.1 713 (by decide), f20.1 713 (by decide), f19.1 713 (by decide), f18.1 713 (by decide), f17.1 713 (by decide), f16.1 713 (by decide), f15.1 713 (by decide), f14.1 713 (by decide), f13.1 713 (by decide), f12.1 713 (by decide), f11.1 713 (by decide), f10.1 713 (by decide), f9.1 713 (by decide), f8.1 713 (by decide), f7.1 713 (by decide)]; exact f6.2
  have w714 : hfR h23 714 (x + 1) = a7 := by rw [f23.1 714 (by decide), f22.1 714 (by decide), f21.1 714 (by decide), f20.1 714 (by decide), f19.1 714 (by decide), f18.1 714 (by decide), f17.1 714 (by decide), f16.1 714 (by decide), f15.1 714 (by decide), f14.1 714 (by decide), f13.1 714 (by decide), f12.1 714 (by decide), f11.1 714 (by decide), f10.1 714 (by decide), f9.1 714 (by decide), f8.1 714 (by decide)]; exact f7.2
  have w715 : hfR h23 715 (x + 1) = a8 := by rw [f23.1 715 (by decide), f22.1 715 (by decide), f21.1 715 (by decide), f20.1 715 (by decide), f19.1 715 (by decide), f18.1 715 (by decide), f17.1 715 (by decide), f16.1 715 (by decide), f15.1 715 (by decide), f14.1 715 (by decide), f13.1 715 (by decide), f12.1 715 (by decide), f11.1 715 (by decide), f10.1 715 (by decide), f9.1 715 (by decide)]; exact f8.2
  have w716 : hfR h23 716 (x + 1) = a9 := by rw [f23.1 716 (by decide), f22.1 716 (by decide), f21.1 716 (by decide), f20.1 716 (by decide), f19.1 716 (by decide), f18.1 716 (by decide), f17.1 716 (by decide), f16.1 716 (by decide), f15.1 716 (by decide), f14.1 716 (by decide), f13.1 716 (by decide), f12.1 716 (by decide), f11.1 716 (by decide), f10.1 716 (by decide)]; exact f9.2
  have w722 : hfR h23 722 (x + 1) = a10 := by rw [f23.1 722 (by decide), f22.1 722 (by decide), f21.1 722 (by decide), f20.1 722 (by decide), f19.1 722 (by decide), f18.1 722 (by decide), f17.1 722 (by decide), f16.1 722 (by decide), f15.1 722 (by decide), f14.1 722 (by decide), f13.1 722 (by decide), f12.1 722 (by decide), f11.1 722 (by decide)]; exact f10.2
  have w723 : hfR h23 723 (x + 1) = a11 := by rw [f23.1 723 (by decide), f22.1 723 (by decide), f21.1 723 (by decide), f20.1 723 (by decide), f19.1 723 (by decide), f18.1 723 (by decide), f17.1 723 (by decide), f16.1 723 (by decide), f15.1 723 (by decide), f14.1 723 (by decide), f13.1 723 (by decide), f12.1 723 (by decide)]; exact f11.2
  have w724 : hfR h23 724 (x + 1) = a12 := by rw [f23.1 724 (by decide), f22.1 724 (by decide), f21.1 724 (by decide), f20.1 724 (by decide), f19.1 724 (by decide), f18.1 724 (by decide), f17.1 724 (by decide), f16.1 724 (by decide), f15.1 724 (by decide), f14.1 724 (by decide), f13.1 724 (by decide)]; exact f12.2
  have w725 : hfR h23 725 (x + 1) = a13 := by rw [f23.1 725 (by decide), f22.1 725 (by decide), f21.1 725 (by decide), f20.1 725 (by decide), f19.1 725 (by decide), f18.1 725 (by decide), f17.1 725 (by decide), f16.1 725 (by decide), f15.1 725 (by decide), f14.1 725 (by decide)]; exact f13.2
  have w726 : hfR h23 726 (x + 1) = a14 := by rw [f23.1 726 (by decide), f22.1 726 (by decide), f21.1 726 (by decide), f20.1 726 (by decide), f19.1 726 (by decide), f18.1 726 (by decide), f17.1 726 (by decide), f16.1 726 (by decide), f15.1 726 (by decide)]; exact f14.2
  have w729 : hfR h23 729 (x + 1) = a15 := by rw [f23.1 729 (by decide), f22.1 729 (by decide), f21.1 729 (by decide), f20.1 729 (by decide), f19.1 729 (by decide), f18.1 729 (by decide), f17.1 729 (by decide), f16.1 729 (by decide)]; exact f15.2
  have w730 : hfR h23 730 (x + 1) = a16 := by rw [f23.1 730 (by decide), f22.1 730 (by decide), f21.1 730 (by decide), f20.1 730 (by decide), f19.1 730 (by decide), f18.1 730 (by decide), f17.1 730 (by decide)]; exact f16.2
  have w731 : hfR h23 731 (x + 1) = a17 := by rw [f23.1 731 (by decide), f22.1 731 (by decide), f21.1 731 (by decide), f20.1 731 (by decide), f19.1 731 (by decide), f18.1 731 (by decide)]; exact f17.2
  have w732 : hfR h23 732 (x + 1) = a18 := by rw [f23.1 732 (by decide), f22.1 732 (by decide), f21.1 732 (by decide), f20.1 732 (by decide), f19.1 732 (by decide)]; exact f18.2
  have w733 : hfR h23 733 (x + 1) = a19 := by rw [f23.1 733 (by decide), f22.1 733 (by decide), f21.1 733 (by decide), f20.1 733 (by decide)]; exact f19.2
  have w734 : hfR h23 734 (x + 1) = a20 := by rw [f23.1 734 (by decide), f22.1 734 (by decide), f21.1 734 (by decide)]; exact f20.2
  have w735 : hfR h23 735 (x + 1) = a21 := by rw [f23.1 735 (by decide), f22.1 735 (by decide)]; exact f21.2
  have w736 : hfR h23 736 (x + 1) = a22 := by rw [f23.1 736 (by decide)]; exact f22.2
  have w738 : hfR h23 738 (x + 1) = a23 := by exact f23.2
  have G23 : GX h23 K23 h23 K23 (x + 1) (fun w => w = x + 1) := GX.rf _ _ _ _
  have G22 : GX h22 K22 h23 K23 (x + 1) (fun w => w = x + 1) := g23.tr G23
  have G21 : GX h21 K21 h23 K23 (x + 1) (fun w => w = x + 1) := g22.tr G22
  have G20 : GX h20 K20 h23 K23 (x + 1) (fun w => w = x + 1) := g21.tr G21
  have G19 : GX h19 K19 h23 K23 (x + 1) (fun w => w = x + 1) := g20.tr G20
  have G18 : GX h18 K18 h23 K23 (x + 1) (fun w => w = x + 1) := g19.tr G19
  have G17 : GX h17 K17 h23 K23 (x + 1) (fun w => w = x + 1) := g18.tr G18
  have G16 : GX h16 K16 h23 K23 (x + 1) (fun w => w = x + 1) := g17.tr G17
  have G15 : GX h15 K15 h23 K23 (x + 1) (fun w => w = x + 1) := g16.tr G16
  have G14 : GX h14 K14 h23 K23 (x + 1) (fun w => w = x + 1) := g15.tr G15
  have G13 : GX h13 K13 h23 K23 (x + 1) (fun w => w = x + 1) := g14.tr G14
  have G12 : GX h12 K12 h23 K23 (x + 1) (fun w => w = x + 1) := g13.tr G13
  have G11 : GX h11 K11 h23 K23 (x + 1) (fun w => w = x + 1) := g12.tr G12
  have G10 : GX h10 K10 h23 K23 (x + 1) (fun w => w = x + 1) := g11.tr G11
  have G9 : GX h9 K9 h23 K23 (x + 1) (fun w => w = x + 1) := g10.tr G10
  have G8 : GX h8 K8 h23 K23 (x + 1) (fun w => w = x + 1) := g9.tr G9
  have G7 : GX h7 K7 h23 K23 (x + 1) (fun w => w = x + 1) := g8.tr G8
  have G6 : GX h6 K6 h23 K23 (x + 1) (fun w => w = x + 1) := g7.tr G7
  have G5 : GX h5 K5 h23 K23 (x + 1) (fun w => w = x + 1) := g6.tr G6
  have G4 : GX h4 K4 h23 K23 (x + 1) (fun w => w = x + 1) := g5.tr G5
  have G3 : GX h3 K3 h23 K23 (x + 1) (fun w => w = x + 1) := g4.tr G4
  have G2 : GX h2 K2 h23 K23 (x + 1) (fun w => w = x + 1) := g3.tr G3
  have G1 : GX h1 K1 h23 K23 (x + 1) (fun w => w = x + 1) := g2.tr G2
  have G0 : GX h K0 h23 K23 (x + 1) (fun w => w = x + 1) := g1.tr G1
  have l1 : haL h23 a1 = 8 := (G1.2.2.1 a1 (by omega) (by omega)).2.2.2.trans r1.2.2
  have c1 : haI h23 a1 = zf := (G1.2.2.1 a1 (by omega) (by omega)).2.2.1.trans rz1
  have l2 : haL h23 a2 = 8 := (G2.2.2.1 a2 (by omega) (by omega)).2.2.2.trans r2.2.2
  have c2 : haI h23 a2 = zf := (G2.2.2.1 a2 (by omega) (by omega)).2.2.1.trans rz2
  have l3 : haL h23 a3 = 320 := (G3.2.2.1 a3 (by omega) (by omega)).2.2.2.trans r3.2.2
  have c3 : haI h23 a3 = zf := (G3.2.2.1 a3 (by omega) (by omega)).2.2.1.trans rz3
  have l4 : haL h23 a4 = 120 := (G4.2.2.1 a4 (by omega) (by omega)).2.2.2.trans r4.2.2
  have c4 : haI h23 a4 = zf := (G4.2.2.1 a4 (by omega) (by omega)).2.2.1.trans rz4
  have l5 : haL h23 a5 = 8 := (G5.2.2.1 a5 (by omega) (by omega)).2.2.2.trans r5.2.2
  have c5 : haI h23 a5 = zf := (G5.2.2.1 a5 (by omega) (by omega)).2.2.1.trans rz5
  have l6 : haL h23 a6 = 4 := (G6.2.2.1 a6 (by omega) (by omega)).2.2.2.trans r6.2.2
  have c6 : haI h23 a6 = zf := (G6.2.2.1 a6 (by omega) (by omega)).2.2.1.trans rz6
  have l7 : haL h23 a7 = 4 := (G7.2.2.1 a7 (by omega) (by omega)).2.2.2.trans r7.2.2
  have c7 : haI h23 a7 = zf := (G7.2.2.1 a7 (by omega) (by omega)).2.2.1.trans rz7
  have l8 : haL h23 a8 = 14 := (G8.2.2.1 a8 (by omega) (by omega)).2.2.2.trans r8.2.2
  have c8 : haI h23 a8 = zf := (G8.2.2.1 a8 (by omega) (by omega)).2.2.1.trans rz8
  have l9 : haL h23 a9 = 14 := (G9.2.2.1 a9 (by omega) (by omega)).2.2.2.trans r9.2.2
  have c9 : haI h23 a9 = zf := (G9.2.2.1 a9 (by omega) (by omega)).2.2.1.trans rz9
  have l10 : haL h23 a10 = 2 := (G10.2.2.1 a10 (by omega) (by omega)).2.2.2.trans r10.2.2
  have c10 : haI h23 a10 = zf := (G10.2.2.1 a10 (by omega) (by omega)).2.2.1.trans rz10
  have l11 : haL h23 a11 = 8 := (G11.2.2.1 a11 (by omega) (by omega)).2.2.2.trans r11.2.2
  have c11 : haI h23 a11 = zf := (G11.2.2.1 a11 (by omega) (by omega)).2.2.1.trans rz11
  have l12 : haL h23 a12 = 8 := (G12.2.2.1 a12 (by omega) (by omega)).2.2.2.trans r12.2.2
  have c12 : haI h23 a12 = zf := (G12.2.2.1 a12 (by omega) (by omega)).2.2.1.trans rz12
  have l13 : haL h23 a13 = 4 := (G13.2.2.1 a13 (by omega) (by omega)).2.2.2.trans r13.2.2
  have c13 : haI h23 a13 = zf := (G13.2.2.1 a13 (by omega) (by omega)).2.2.1.trans rz13
  have l14 : haL h23 a14 = 4 := (G14.2.2.1 a14 (by omega) (by omega)).2.2.2.trans r14.2.2
  have c14 : haI h23 a14 = zf := (G14.2.2.1 a14 (by omega) (by omega)).2.2.1.trans rz14
  have l15 : haL h23 a15 = 336 := (G15.2.2.1 a15 (by omega) (by omega)).2.2.2.trans r15.2.2
  have c15 : haI h23 a15 = zf := (G15.2.2.1 a15 (by omega) (by omega)).2.2.1.trans rz15
  have l16 : haL h23 a16 = 8 := (G16.2.2.1 a16 (by omega) (by omega)).2.2.2.trans r16.2.2
  have c16 : haI h23 a16 = zf := (G16.2.2.1 a16 (by omega) (by omega)).2.2.1.trans rz16
  have l17 : haL h23 a17 = 2 := (G17.2.2.1 a17 (by omega) (by omega)).2.2.2.trans r17.2.2
  have c17 : haI h23 a17 = zf := (G17.2.2.1 a17 (by omega) (by omega)).2.2.1.trans rz17
  have l18 : haL h23 a18 = 10 := (G18.2.2.1 a18 (by omega) (by omega)).2.2.2.trans r18.2.2
  have c18 : haI h23 a18 = zf := (G18.2.2.1 a18 (by omega) (by omega)).2.2.1.trans rz18
  have l19 : haL h23 a19 = 16 := (G19.2.2.1 a19 (by omega) (by omega)).2.2.2.trans r19.2.2
  have c19 : haI h23 a19 = zf := (G19.2.2.1 a19 (by omega) (by omega)).2.2.1.trans rz19
  have l20 : haL h23 a20 = 8 := (G20.2.2.1 a20 (by omega) (by omega)).2.2.2.trans r20.2.2
  have c20 : haI h23 a20 = zf := (G20.2.2.1 a20 (by omega) (by omega)).2.2.1.trans rz20
  have l21 : haL h23 a21 = 8 := (G21.2.2.1 a21 (by omega) (by omega)).2.2.2.trans r21.2.2
  have c21 : haI h23 a21 = zf := (G21.2.2.1 a21 (by omega) (by omega)).2.2.1.trans rz21
  have l22 : haL h23 a22 = 28 := (G22.2.2.1 a22 (by omega) (by omega)).2.2.2.trans r22.2.2
  have c22 : haI h23 a22 = zf := (G22.2.2.1 a22 (by omega) (by omega)).2.2.1.trans rz22
  have l23 : haL h23 a23 = 16 := (G23.2.2.1 a23 (by omega) (by omega)).2.2.2.trans r23.2.2
  have c23 : haI h23 a23 = zf := (G23.2.2.1 a23 (by omega) (by omega)).2.2.1.trans rz23
  have o1 : a1 < a2 := by omega
  have o2 : a2 < a3 := by omega
  have o3 : a3 < a4 := by omega
  have o4 : a4 < a5 := by omega
  have o5 : a5 < a6 := by omega
  have o6 : a6 < a7 := by omega
  have o7 : a7 < a8 := by omega
  have o8 : a8 < a9 := by omega
  have o9 : a9 < a10 := by omega
  have o10 : a10 < a11 := by omega
  have o11 : a11 < a12 := by omega
  have o12 : a12 < a13 := by omega
  have o13 : a13 < a14 := by omega
  have o14 : a14 < a15 := by omega
  have o15 : a15 < a16 := by omega
  have o16 : a16 < a17 := by omega
  have o17 : a17 < a18 := by omega
  have o18 : a18 < a19 := by omega
  have o19 : a19 < a20 := by omega
  have o20 : a20 < a21 := by omega
  have o21 : a21 < a22 := by omega
  have o22 : a22 < a23 := by omega
  have og : hz h ≤ a1 := ha1
  have oz : a23 < hz h23 := by omega
  clear ha1 g1 f1 r1 rz1 hh1 ha2 g2 f2 r2 rz2 hh2 ha3 g3 f3 r3 rz3 hh3 ha4 g4 f4 r4 rz4 hh4 ha5 g5 f5 r5 rz5 hh5 ha6 g6 f6 r6 rz6 hh6 ha7 g7 f7 r7 rz7 hh7 ha8 g8 f8 r8 rz8 hh8 ha9 g9 f9 r9 rz9 hh9 ha10 g10 f10 r10 rz10 hh10 ha11 g11 f11 r11 rz11 hh11 ha12 g12 f12 r12 rz12 hh12 ha13 g13 f13 r13 rz13 hh13 ha14 g14 f14 r14 rz14 hh14 ha15 g15 f15 r15 rz15 hh15 ha16 g16 f16 r16 rz16 hh16 ha17 g17 f17 r17 rz17 hh17 ha18 g18 f18 r18 rz18 hh18 ha19 g19 f19 r19 rz19 hh19 ha20 g20 f20 r20 rz20 hh20 ha21 g21 f21 r21 rz21 hh21 ha22 g22 f22 r22 rz22 hh22 ha23 g23 f23 r23 rz23 hh23
  have hinc : ∀ i, i + 1 < 23 → hfR h23 (mfA i) (x + 1) < hfR h23 (mfA (i + 1)) (x + 1) := by
    intro i hi
    match i, hi with
    | 0, _ => show hfR h23 701 (x + 1) < hfR h23 702 (x + 1); rw [w701, w702]; exact o1
    | 1, _ => show hfR h23 702 (x + 1) < hfR h23 703 (x + 1); rw [w702, w703]; exact o2
    | 2, _ => show hfR h23 703 (x + 1) < hfR h23 705 (x + 1); rw [w703, w705]; exact o3
    | 3, _ => show hfR h23 705 (x + 1) < hfR h23 712 (x + 1); rw [w705, w712]; exact o4
    | 4, _ => show hfR h23 712 (x + 1) < hfR h23 713 (x + 1); rw [w712, w713]; exact o5
    | 5, _ => show hfR h23 713 (x + 1) < hfR h23 714 (x + 1); rw [w713, w714]; exact o6
    | 6, _ => show hfR h23 714 (x + 1) < hfR h23 715 (x + 1); rw [w714, w715]; exact o7
    | 7, _ => show hfR h23 715 (x + 1) < hfR h23 716 (x + 1); rw [w715, w716]; exact o8
    | 8, _ => show hfR h23 716 (x + 1) < hfR h23 722 (x + 1); rw [w716, w722]; exact o9
    | 9, _ => show hfR h23 722 (x + 1) < hfR h23 723 (x + 1); rw [w722, w723]; exact o10
    | 10, _ => show hfR h23 723 (x + 1) < hfR h23 724 (x + 1); rw [w723, w724]; exact o11
    | 11, _ => show hfR h23 724 (x + 1) < hfR h23 725 (x + 1); rw [w724, w725]; exact o12
    | 12, _ => show hfR h23 725 (x + 1) < hfR h23 726 (x + 1); rw [w725, w726]; exact o13
    | 13, _ => show hfR h23 726 (x + 1) < hfR h23 729 (x + 1); rw [w726, w729]; exact o14
    | 14, _ => show hfR h23 729 (x + 1) < hfR h23 730 (x + 1); rw [w729, w730]; exact o15
    | 15, _ => show hfR h23 730 (x + 1) < hfR h23 731 (x + 1); rw [w730, w731]; exact o16
    | 16, _ => show hfR h23 731 (x + 1) < hfR h23 732 (x + 1); rw [w731, w732]; exact o17
    | 17, _ => show hfR h23 732 (x + 1) < hfR h23 733 (x + 1); rw [w732, w733]; exact o18
    | 18, _ => show hfR h23 733 (x + 1) < hfR h23 734 (x + 1); rw [w733, w734]; exact o19
    | 19, _ => show hfR h23 734 (x + 1) < hfR h23 735 (x + 1); rw [w734, w735]; exact o20
    | 20, _ => show hfR h23 735 (x + 1) < hfR h23 736 (x + 1); rw [w735, w736]; exact o21
    | 21, _ => show hfR h23 736 (x + 1) < hfR h23 738 (x + 1); rw [w736, w738]; exact o22
    | i + 22, hi => omega
  have hcd : ∀ f ∈ MF, hfR h23 f (x + 1) ≠ 0 ∧ haL h23 (hfR h23 f (x + 1)) = mlen f ∧ (hz h ≤ hfR h23 f (x + 1) ∧ hfR h23 f (x + 1) < hz h23) ∧ haI h23 (hfR h23 f (x + 1)) = zf := by
    intro f hf
    obtain ⟨i, hi, rfl⟩ := mfA_of f hf
    match i, hi with
    | 0, _ => show hfR h23 701 (x + 1) ≠ 0 ∧ haL h23 (hfR h23 701 (x + 1)) = 8 ∧ (hz h ≤ hfR h23 701 (x + 1) ∧ hfR h23 701 (x + 1) < hz h23) ∧ haI h23 (hfR h23 701 (x + 1)) = zf; rw [w701]; exact ⟨by omega, l1, ⟨by omega, by omega⟩, c1⟩
    | 1, _ => show hfR h23 702 (x + 1) ≠ 0 ∧ haL h23 (hfR h23 702 (x + 1)) = 8 ∧ (hz h ≤ hfR h23 702 (x + 1) ∧ hfR h23 702 (x + 1) < hz h23) ∧ haI h23 (hfR h23 702 (x + 1)) = zf; rw [w702]; exact ⟨by omega, l2, ⟨by omega, by omega⟩, c2⟩
    | 2, _ => show hfR h23 703 (x + 1) ≠ 0 ∧ haL h23 (hfR h23 703 (x + 1)) = 320 ∧ (hz h ≤ hfR h23 703 (x + 1) ∧ hfR h23 703 (x + 1) < hz h23) ∧ haI h23 (hfR h23 703 (x + 1)) = zf; rw [w703]; exact ⟨by omega, l3, ⟨by omega, by omega⟩, c3⟩
    | 3, _ => show hfR h23 705 (x + 1) ≠ 0 ∧ haL h23 (hfR h23 705 (x + 1)) = 120 ∧ (hz h ≤ hfR h23 705 (x + 1) ∧ hfR h23 705 (x + 1) < hz h23) ∧ haI h23 (hfR h23 705 (x + 1)) = zf; rw [w705]; exact ⟨by omega, l4, ⟨by omega, by omega⟩, c4⟩
    | 4, _ => show hfR h23 712 (x + 1) ≠ 0 ∧ haL h23 (hfR h23 712 (x + 1)) = 8 ∧ (hz h ≤ hfR h23 712 (x + 1) ∧ hfR h23 712 (x + 1) < hz h23) ∧ haI h23 (hfR h23 712 (x + 1)) = zf; rw [w712]; exact ⟨by omega, l5, ⟨by omega, by omega⟩, c5⟩
    | 5, _ => show hfR h23 713 (x + 1) ≠ 0 ∧ haL h23 (hfR h23 713 (x + 1)) = 4 ∧ (hz h ≤ hfR h23 713 (x + 1) ∧ hfR h23 713 (x + 1) < hz h23) ∧ haI h23 (hfR h23 713 (x + 1)) = zf; rw [w713]; exact ⟨by omega, l6, ⟨by omega, by omega⟩, c6⟩
    | 6, _ => show hfR h23 714 (x + 1) ≠ 0 ∧ haL h23 (hfR h23 714 (x + 1)) = 4 ∧ (hz h ≤ hfR h23 714 (x + 1) ∧ hfR h23 714 (x + 1) < hz h23) ∧ haI h23 (hfR h23 714 (x + 1)) = zf; rw [w714]; exact ⟨by omega, l7, ⟨by omega, by omega⟩, c7⟩
    | 7, _ => show hfR h23 715 (x + 1) ≠ 0 ∧ haL h23 (hfR h23 715 (x + 1)) = 14 ∧ (hz h ≤ hfR h23 715 (x + 1) ∧ hfR h23 715 (x + 1) < hz h23) ∧ haI h23 (hfR h23 715 (x + 1)) = zf; rw [w715]; exact ⟨by omega, l8, ⟨by omega, by omega⟩, c8⟩
    | 8, _ => show hfR h23 716 (x + 1) ≠ 0 ∧ haL h23 (hfR h23 716 (x + 1)) = 14 ∧ (hz h ≤ hfR h23 716 (x + 1) ∧ hfR h23 716 (x + 1) < hz h23) ∧ haI h23 (hfR h23 716 (x + 1)) = zf; rw [w716]; exact ⟨by omega, l9, ⟨by omega, by omega⟩, c9⟩
    | 9, _ => show hfR h23 722 (x + 1) ≠ 0 ∧ haL h23 (hfR h23 722 (x + 1)) = 2 ∧ (hz h ≤ hfR h23 722 (x + 1) ∧ hfR h23 722 (x + 1) < hz h23) ∧ haI h23 (hfR h23 722 (x + 1)) = zf; rw [w722]; exact ⟨by omega, l10, ⟨by omega, by omega⟩, c10⟩
    | 10, _ => show hfR h23 723 (x + 1) ≠ 0 ∧ haL h23 (hfR h23 723 (x + 1)) = 8 ∧ (hz h ≤ hfR h23 723 (x + 1) ∧ hfR h23 723 (x + 1) < hz h23) ∧ haI h23 (hfR h23 723 (x + 1)) = zf; rw [w723]; exact ⟨by omega, l11, ⟨by omega, by omega⟩, c11⟩
    | 11, _ => show hfR h23 724 (x + 1) ≠ 0 ∧ haL h23 (hfR h23 724 (x + 1)) = 8 ∧ (hz h ≤ hfR h23 724 (x + 1) ∧ hfR h23 724 (x + 1) < hz h23) ∧ haI h23 (hfR h23 724 (x + 1)) = zf; rw [w724]; exact ⟨by omega, l12, ⟨by omega, by omega⟩, c12⟩
    | 12, _ => show hfR h23 725 (x + 1) ≠ 0 ∧ haL h23 (hfR h23 725 (x + 1)) = 4 ∧ (hz h ≤ hfR h23 725 (x + 1) ∧ hfR h23 725 (x + 1) < hz h23) ∧ haI h23 (hfR h23 725 (x + 1)) = zf; rw [w725]; exact ⟨by omega, l13, ⟨by omega, by omega⟩, c13⟩
    | 13, _ => show hfR h23 726 (x + 1) ≠ 0 ∧ haL h23 (hfR h23 726 (x + 1)) = 4 ∧ (hz h ≤ hfR h23 726 (x + 1) ∧ hfR h23 726 (x + 1) < hz h23) ∧ haI h23 (hfR h23 726 (x + 1)) = zf; rw [w726]; exact ⟨by omega, l14, ⟨by omega, by omega⟩, c14⟩
    | 14, _ => show hfR h23 729 (x + 1) ≠ 0 ∧ haL h23 (hfR h23 729 (x + 1)) = 336 ∧ (hz h ≤ hfR h23 729 (x + 1) ∧ hfR h23 729 (x + 1) < hz h23) ∧ haI h23 (hfR h23 729 (x + 1)) = zf; rw [w729]; exact ⟨by omega, l15, ⟨by omega, by omega⟩, c15⟩
    | 15, _ => show hfR h23 730 (x + 1) ≠ 0 ∧ haL h23 (hfR h23 730 (x + 1)) = 8 ∧ (hz h ≤ hfR h23 730 (x + 1) ∧ hfR h23 730 (x + 1) < hz h23) ∧ haI h23 (hfR h23 730 (x + 1)) = zf; rw [w730]; exact ⟨by omega, l16, ⟨by omega, by omega⟩, c16⟩
    | 16, _ => show hfR h23 731 (x + 1) ≠ 0 ∧ haL h23 (hfR h23 731 (x + 1)) = 2 ∧ (hz h ≤ hfR h23 731 (x + 1) ∧ hfR h23 731 (x + 1) < hz h23) ∧ haI h23 (hfR h23 731 (x + 1)) = zf; rw [w731]; exact ⟨by omega, l17, ⟨by omega, by omega⟩, c17⟩
    | 17, _ => show hfR h23 732 (x + 1) ≠ 0 ∧ haL h23 (hfR h23 732 (x + 1)) = 10 ∧ (hz h ≤ hfR h23 732 (x + 1) ∧ hfR h23 732 (x + 1) < hz h23) ∧ haI h23 (hfR h23 732 (x + 1)) = zf; rw [w732]; exact ⟨by omega, l18, ⟨by omega, by omega⟩, c18⟩
    | 18, _ => show hfR h23 733 (x + 1) ≠ 0 ∧ haL h23 (hfR h23 733 (x + 1)) = 16 ∧ (hz h ≤ hfR h23 733 (x + 1) ∧ hfR h23 733 (x + 1) < hz h23) ∧ haI h23 (hfR h23 733 (x + 1)) = zf; rw [w733]; exact ⟨by omega, l19, ⟨by omega, by omega⟩, c19⟩
    | 19, _ => show hfR h23 734 (x + 1) ≠ 0 ∧ haL h23 (hfR h23 734 (x + 1)) = 8 ∧ (hz h ≤ hfR h23 734 (x + 1) ∧ hfR h23 734 (x + 1) < hz h23) ∧ haI h23 (hfR h23 734 (x + 1)) = zf; rw [w734]; exact ⟨by omega, l20, ⟨by omega, by omega⟩, c20⟩
    | 20, _ => show hfR h23 735 (x + 1) ≠ 0 ∧ haL h23 (hfR h23 735 (x + 1)) = 8 ∧ (hz h ≤ hfR h23 735 (x + 1) ∧ hfR h23 735 (x + 1) < hz h23) ∧ haI h23 (hfR h23 735 (x + 1)) = zf; rw [w735]; exact ⟨by omega, l21, ⟨by omega, by omega⟩, c21⟩
    | 21, _ => show hfR h23 736 (x + 1) ≠ 0 ∧ haL h23 (hfR h23 736 (x + 1)) = 28 ∧ (hz h ≤ hfR h23 736 (x + 1) ∧ hfR h23 736 (x + 1) < hz h23) ∧ haI h23 (hfR h23 736 (x + 1)) = zf; rw [w736]; exact ⟨by omega, l22, ⟨by omega, by omega⟩, c22⟩
    | 22, _ => show hfR h23 738 (x + 1) ≠ 0 ∧ haL h23 (hfR h23 738 (x + 1)) = 16 ∧ (hz h ≤ hfR h23 738 (x + 1) ∧ hfR h23 738 (x + 1) < hz h23) ∧ haI h23 (hfR h23 738 (x + 1)) = zf; rw [w738]; exact ⟨by omega, l23, ⟨by omega, by omega⟩, c23⟩
    | i + 23, hi => omega
  have hM : MSh h23 (x + 1) := by
    refine ⟨fun f hf => ⟨(hcd f hf).1, (hcd f hf).2.1⟩, fun f hf g hg e => ?_⟩
    obtain ⟨i, hi, rfl⟩ := mfA_of f hf
    obtain ⟨j, hj, rfl⟩ := mfA_of g hg
    rw [inc_inj (a := fun i => hfR h23 (mfA i) (x + 1)) hinc hi hj e]
  have hE : EXn h h23 (x + 1) := ⟨G0.1, fun z l1 l2 => ⟨(G0.2.2.1 z l1 l2).1, (G0.2.2.1 z l1 l2).2.1, (G0.2.2.1 z l1 l2).2.2.1, (G0.2.2.1 z l1 l2).2.2.2, G0.2.2.2 z l1 l2⟩⟩
  have hl := (hcd 701 (by decide)).2.1
  have h7 := hcd 701 (by decide)
  refine go (cut1 186) 60 184 _ _ _ _ _ ?_
  have L : ∀ r, r ≤ 8 → ∀ g : Nat → Int32, (∀ j, j < r → g j = -1) → Wm 186 [some (.inr (.inr (8, x + 1))), some (.inl (nI r))] [] (waI h23 (hfR h23 701 (x + 1)) g) 23 958 := by
    refine upto (n := 8) (fun r hr ih g hg => ?_)
    refine go (cut1 186) 60 186 _ _ _ _ _ ?_
    refine icg rfl (show (8 : Int32) = nI 8 from rfl) (by omega) (by omega) (fun c => ?_) (fun c => ?_)
    · refine hk _ ⟨⟨hE.1, fun z l1 l2 => ?_⟩, hM, z23, fun f hf => (hcd f hf).2.2.1, fun f hf hne => ?_, fun j hj => ?_⟩
      · obtain ⟨y1, y2, y3, y4, y5⟩ := hE.2 z l1 l2
        exact ⟨y1, y2, (va_up_ne _ _ (by have := h7.2.2.1.1; omega)).trans y3, y4, y5⟩
      · refine (va_up_ne _ _ (fun e => hne (hM.2 f hf 701 (by decide) e))).trans (hcd f hf).2.2.2
      · show va_up _ (hfR h23 701 (x + 1)) g (hfR h23 701 (x + 1)) j = -1
        rw [va_up_self]; exact hg j (by omega)
    · refine nz h7.1 (And.intro ?_ ?_)
      · show vp_in (nI r) (haL h23 (hfR h23 701 (x + 1)))
        rw [hl]; exact vp_in_nI c (by decide)
      · have e := ih c (upd g r (-1)) (fun j hj => by
          unfold upd
          by_cases q : j = r
          · rw [if_pos q]
          · rw [if_neg q]; exact hg j (by omega))
        rw [← nI_1] at e
        refine wmc (Wm := Wm) e rfl ?_
        rw [nI_clamp (by omega)]
        show waI (waI h23 (hfR h23 701 (x + 1)) g) (hfR h23 701 (x + 1)) (upd (va_up h23.2.2.1 (hfR h23 701 (x + 1)) g (hfR h23 701 (x + 1))) r (-1)) = _
        rw [va_up_self, waI_waI]
  have st := L 0 (Nat.zero_le _) (haI h23 (hfR h23 701 (x + 1))) (fun j hj => absurd hj (Nat.not_lt_zero j))
  rw [waI_id] at st
  exact st
