/-! ===== the class: a new castle ===== -/
def INI (h h' : hp) (K : Nat → Nat) (x : Nat) : Prop := EXn h h' x ∧ PH1 h' K x ∧ (∀ i, i < 24 → SS h' K (haR h' (hfR h' 607 x) i) (1 + i) ∧ ZS h' (haR h' (hfR h' 607 x) i)) ∧ (∀ i, i < 2 → SS h' K (haR h' (hfR h' 611 x) i) (25 + i) ∧ ZS h' (haR h' (hfR h' 611 x) i)) ∧ (∀ z, z < hz h → z ≠ x → K z = 500)
/-- a new State, kept in the array A -/
theorem step_stateA {h h1 : hp} {K : Nat → Nat} {x A z a b s i : Nat} (hx : x < hz h) (hA : A < hz h) (hz0 : hz h ≤ z) (hzz : z ≠ 0) (h0 : ZX h x) (hs : s < 29) (hN : STN (wobj h z) h1 z a b) (h' : hp) (e : h' = waR h1 A (va_up (haR h1 A) i z)) : GX h K h' (upK (upK (upK K z (10 + s)) a (100 + s)) b (200 + s)) x A ∧ (∀ f, hfR h' f x = hfR h f x) ∧ ZX h' x ∧ SS h' (upK (upK (upK K z (10 + s)) a (100 + s)) b (200 + s)) z s ∧ ZS h' z ∧ haR h' A = va_up (haR h A) i z ∧ (hz h ≤ z ∧ z < a ∧ a < b ∧ b < hz h') := by
  subst e
  obtain ⟨n1, ⟨o1, o2, o3⟩, ⟨i1, i2⟩, ⟨r1, r2⟩, ⟨l1, l2⟩, ⟨c1, c2⟩⟩ := hN
  have o1 : z + 1 ≤ a := o1
  have hE : EX h h1 := EXn.new hz0 n1
  have hEx := hE.2 x hx
  refine ⟨⟨hE.1, fun w hw => ?_, fun w hw hne => ?_, fun w hw ha => (va_up_ne _ _ ha).trans (hE.2 w hw).2.2.2.2⟩, hEx.2.1, fun g => (hEx.1 g).trans (h0 g), ⟨⟨hzz, ?_, hs⟩, ?_, ?_⟩, ⟨i1, i2, ?_, ?_⟩, ?_, ⟨hz0, by omega, o2, o3⟩⟩
  · rw [upK_ne (by omega), upK_ne (by omega), upK_ne (by omega)]
  · obtain ⟨e1, e2, e3, e4, -⟩ := hE.2 w hw
    exact ⟨e1, e2, e3, e4⟩
  · rw [upK_ne (by omega), upK_ne (by omega), upK_eq]
  · have er : hfR (waR h1 A (va_up (haR h1 A) i z)) 500 z = a := r1
    rw [er]
    exact ⟨by omega, by rw [upK_ne (by omega), upK_eq], l1⟩
  · have er : hfR (waR h1 A (va_up (haR h1 A) i z)) 501 z = b := r2
    rw [er]
    exact ⟨by omega, upK_eq, l2⟩
  · have er : hfR (waR h1 A (va_up (haR h1 A) i z)) 500 z = a := r1
    rw [er]; exact c1
  · have er : hfR (waR h1 A (va_up (haR h1 A) i z)) 501 z = b := r2
    rw [er]; exact c2
  · refine (va_up_self _ _ _).trans ?_
    rw [(hE.2 A hA).2.2.2.2]
set_option maxRecDepth 20000 in
theorem c_castleInit {d x : Nat} {h : hp} {kk : Rt} (hx : x + 1 < hz h) (h0 : ZX h (x + 1)) (hk : ∀ h' K, INI h h' K (x + 1) → kk none h') : CL (d + 3) mX6_init 108 727 [.inr (.inr (7, x + 1))] h kk := by
  obtain ⟨K0, hK0⟩ : ∃ K0 : Nat → Nat, K0 = upK (fun _ => 500) (x + 1) 1 := ⟨_, rfl⟩
  have q0 : K0 (x + 1) = 1 := by rw [hK0]; exact upK_eq
  have q5 : ∀ z, z ≠ x + 1 → K0 z = 500 := fun z hne => by rw [hK0]; exact upK_ne hne
  have k0 : KK (hz h) K0 (fun u => u ∈ [1]) := by
    refine ⟨fun z z' e1 e2 => ?_, fun z e1 => by rw [q5 z (by omega)]; decide, fun z e1 => ?_⟩
    · by_cases c1 : z = x + 1
      · by_cases c2 : z' = x + 1
        · rw [c1, c2]
        · rw [c1, q0, q5 z' c2] at e2; omega
      · rw [q5 z c1] at e1; omega
    · by_cases c1 : z = x + 1
      · rw [c1, q0]; exact List.mem_cons_self
      · rw [q5 z c1] at e1; omega
  have x0 : x + 1 < hz h := hx
  have n0 : hz h ≤ hz h := Nat.le_refl _
  have z0 := h0
  refine mw T_X6_init (fun Wm go => go (cut1 13) 60 0 _ _ _ _ _ ?_)
  refine And.intro ⟨by decide, by decide⟩ (And.intro ⟨by decide, by decide⟩ (fun a1 ha1 => ?_))
  have ha1 : hz h ≤ a1 := ha1
  obtain ⟨h1, e1⟩ : ∃ h1 : hp, h1 = wfR (warr h a1 8) 600 (x + 1) a1 := ⟨_, rfl⟩
  obtain ⟨g1, f1, z1, r1, -, rz1, hh1⟩ := step_arr (K := K0) (A := x + 1) (s := 50) x0 ha1 z0 h1 e1 (by omega)
  have k1 := k0.addL (c := a1) (s := 50) (by omega) (by omega) (by decide)
  have n1 : a1 + 1 ≤ hz h1 := by omega
  generalize upK K0 a1 50 = K1 at *
  have x1 : x + 1 < hz h1 := Nat.lt_of_lt_of_le x0 g1.1
  refine wmk (Wm := Wm) (L' := [some (.inr (.inr (7, x + 1))), none]) (S' := []) (h' := h1) (cu' := 1) (su' := 8) ?_ rfl rfl e1.symm rfl rfl
  clear e1
  refine go (cut1 36) 60 13 _ _ _ _ _ ?_
  refine And.intro ⟨by decide, by decide⟩ (And.intro ⟨by decide, by decide⟩ (fun a2 ha2 => ?_))
  have ha2 : hz h1 ≤ a2 := ha2
  obtain ⟨h2, e2⟩ : ∃ h2 : hp, h2 = wfR (warr h1 a2 120) 601 (x + 1) a2 := ⟨_, rfl⟩
  obtain ⟨g2, f2, z2, r2, ri2, rz2, hh2⟩ := step_arr (K := K1) (A := x + 1) (s := 4) x1 ha2 z1 h2 e2 (by omega)
  have k2 := k1.addL (c := a2) (s := 4) (by omega) (by omega) (by decide)
  have n2 : a2 + 1 ≤ hz h2 := by omega
  generalize upK K1 a2 4 = K2 at *
  have x2 : x + 1 < hz h2 := Nat.lt_of_lt_of_le x1 g2.1
  refine wmk (Wm := Wm) (L' := [some (.inr (.inr (7, x + 1))), none]) (S' := []) (h' := h2) (cu' := 2) (su' := 128) ?_ rfl rfl (by show wfI (wfI (wfI (wfR (warr h1 a2 120) 601 (x + 1) a2) 602 (x + 1) 0) 603 (x + 1) 0) 604 (x + 1) 0 = h2; rw [← e2, wfI_id (z2 602), wfI_id (z2 603), wfI_id (z2 604)]) rfl rfl
  clear e2
  refine go (cut1 47) 60 36 _ _ _ _ _ ?_
  refine And.intro ⟨by decide, by decide⟩ (fun a3 ha3 => ?_)
  have ha3 : hz h2 ≤ a3 := ha3
  obtain ⟨a3, rfl⟩ : ∃ t, a3 = t + 1 := ⟨a3 - 1, by omega⟩
  refine And.intro ⟨by decide, by decide⟩ ?_
  refine c_planInit (fun y3 b3 c3 d3 v3 hN3 => ?_)
  obtain ⟨h3, e3⟩ : ∃ h3 : hp, h3 = wfR y3 605 (x + 1) (a3 + 1) := ⟨_, rfl⟩
  obtain ⟨g3, f3, z3, r3, rz3, ry3, -⟩ := step_plan (K := K2) (A := x + 1) x2 ha3 (Nat.succ_ne_zero _) z2 (k2.z n2) hN3 h3 e3
  have k3 := k2
  have n3 := Nat.le_trans n2 g3.1
  obtain ⟨K3, eK3⟩ : ∃ K3 : Nat → Nat, K3 = K2 := ⟨_, rfl⟩
  rw [← eK3] at k3 r3
  have g3 : GX h2 K2 h3 K3 (x + 1) (x + 1) := by rw [eK3]; exact g3
  have x3 : x + 1 < hz h3 := Nat.lt_of_lt_of_le x2 g3.1
  refine wmk (Wm := Wm) (L' := [some (.inr (.inr (7, x + 1))), none]) (S' := []) (h' := h3) (cu' := 7) (su' := 161) ?_ rfl rfl e3.symm rfl rfl
  clear e3
  refine go (cut1 58) 60 47 _ _ _ _ _ ?_
  refine And.intro ⟨by decide, by decide⟩ (fun a4 ha4 => ?_)
  have ha4 : hz h3 ≤ a4 := ha4
  obtain ⟨a4, rfl⟩ : ∃ t, a4 = t + 1 := ⟨a4 - 1, by omega⟩
  refine And.intro ⟨by decide, by decide⟩ ?_
  refine c_stateInit (fun y4 b4 c4 hN4 => ?_)
  obtain ⟨h4, e4⟩ : ∃ h4 : hp, h4 = wfR y4 606 (x + 1) (a4 + 1) := ⟨_, rfl⟩
  obtain ⟨g4, f4, z4, r4, rz4, ⟨o4, p4, t4, u4⟩⟩ := step_state (K := K3) (A := x + 1) (s := 0) x3 ha4 (Nat.succ_ne_zero _) z3 (by omega) hN4 h4 e4
  have k4 := ((k3.addL (c := a4 + 1) (s := 10 + 0) (by omega) (by omega) (by decide)).addL (c := b4) (s := 100 + 0) (by omega) (by omega) (by decide)).addL (c := c4) (s := 200 + 0) (by omega) (by omega) (by decide)
  have n4 : c4 + 1 ≤ hz h4 := by omega
  generalize upK (upK (upK K3 (a4 + 1) (10 + 0)) b4 (100 + 0)) c4 (200 + 0) = K4 at *
  have x4 : x + 1 < hz h4 := Nat.lt_of_lt_of_le x3 g4.1
  refine wmk (Wm := Wm) (L' := [some (.inr (.inr (7, x + 1))), none]) (S' := []) (h' := h4) (cu' := 10) (su' := 177) ?_ rfl rfl e4.symm rfl rfl
  clear e4
  refine go (cut1 77) 60 58 _ _ _ _ _ ?_
  refine And.intro ⟨by decide, by decide⟩ (And.intro ⟨by decide, by decide⟩ (fun a5 ha5 => ?_))
  have ha5 : hz h4 ≤ a5 := ha5
  obtain ⟨h5, e5⟩ : ∃ h5 : hp, h5 = wfR (warr h4 a5 24) 607 (x + 1) a5 := ⟨_, rfl⟩
  obtain ⟨g5, f5, z5, r5, -, rz5, hh5⟩ := step_arr (K := K4) (A := x + 1) (s := 51) x4 ha5 z4 h5 e5 (by omega)
  have k5 := k4.addL (c := a5) (s := 51) (by omega) (by omega) (by decide)
  have n5 : a5 + 1 ≤ hz h5 := by omega
  generalize upK K4 a5 51 = K5 at *
  have x5 : x + 1 < hz h5 := Nat.lt_of_lt_of_le x4 g5.1
  refine wmk (Wm := Wm) (L' := [some (.inr (.inr (7, x + 1))), none]) (S' := []) (h' := h5) (cu' := 11) (su' := 201) ?_ rfl rfl (by show wfI (wfI (wfR (warr h4 a5 24) 607 (x + 1) a5) 608 (x + 1) 0) 609 (x + 1) 0 = h5; rw [← e5, wfI_id (z5 608), wfI_id (z5 609)]) rfl rfl
  clear e5
  refine go (cut1 85) 60 77 _ _ _ _ _ ?_
  refine And.intro ⟨by decide, by decide⟩ (And.intro ⟨by decide, by decide⟩ (fun a6 ha6 => ?_))
  have ha6 : hz h5 ≤ a6 := ha6
  obtain ⟨h6, e6⟩ : ∃ h6 : hp, h6 = wfR (warr h5 a6 2) 610 (x + 1) a6 := ⟨_, rfl⟩
  obtain ⟨g6, f6, z6, r6, -, rz6, hh6⟩ := step_arr (K := K5) (A := x + 1) (s := 52) x5 ha6 z5 h6 e6 (by omega)
  have k6 := k5.addL (c := a6) (s := 52) (by omega) (by omega) (by decide)
  have n6 : a6 + 1 ≤ hz h6 := by omega
  generalize upK K5 a6 52 = K6 at *
  have x6 : x + 1 < hz h6 := Nat.lt_of_lt_of_le x5 g6.1
  refine wmk (Wm := Wm) (L' := [some (.inr (.inr (7, x + 1))), none]) (S' := []) (h' := h6) (cu' := 12) (su' := 203) ?_ rfl rfl e6.symm rfl rfl
  clear e6
  refine go (cut1 93) 60 85 _ _ _ _ _ ?_
  refine And.intro ⟨by decide, by decide⟩ (And.intro ⟨by decide, by decide⟩ (fun a7 ha7 => ?_))
  have ha7 : hz h6 ≤ a7 := ha7
  obtain ⟨h7, e7⟩ : ∃ h7 : hp, h7 = wfR (warr h6 a7 2) 611 (x + 1) a7 := ⟨_, rfl⟩
  obtain ⟨g7, f7, z7, r7, -, rz7, hh7⟩ := step_arr (K := K6) (A := x + 1) (s := 53) x6 ha7 z6 h7 e7 (by omega)
  have k7 := k6.addL (c := a7) (s := 53) (by omega) (by omega) (by decide)
  have n7 : a7 + 1 ≤ hz h7 := by omega
  generalize upK K6 a7 53 = K7 at *
  have x7 : x + 1 < hz h7 := Nat.lt_of_lt_of_le x6 g7.1
  refine wmk (Wm := Wm) (L' := [some (.inr (.inr (7, x + 1))), none]) (S' := []) (h' := h7) (cu' := 13) (su' := 205) ?_ rfl rfl e7.symm rfl rfl
  clear e7
  refine go (cut1 104) 60 93 _ _ _ _ _ ?_
  refine And.intro ⟨by decide, by decide⟩ (fun a8 ha8 => ?_)
  have ha8 : hz h7 ≤ a8 := ha8
  obtain ⟨a8, rfl⟩ : ∃ t, a8 = t + 1 := ⟨a8 - 1, by omega⟩
  refine And.intro ⟨by decide, by decide⟩ ?_
  refine c_stateInit (fun y8 b8 c8 hN8 => ?_)
  obtain ⟨h8, e8⟩ : ∃ h8 : hp, h8 = wfR y8 612 (x + 1) (a8 + 1) := ⟨_, rfl⟩
  obtain ⟨g8, f8, z8, r8, rz8, ⟨o8, p8, t8, u8⟩⟩ := step_state (K := K7) (A := x + 1) (s := 27) x7 ha8 (Nat.succ_ne_zero _) z7 (by omega) hN8 h8 e8
  have k8 := ((k7.addL (c := a8 + 1) (s := 10 + 27) (by omega) (by omega) (by decide)).addL (c := b8) (s := 100 + 27) (by omega) (by omega) (by decide)).addL (c := c8) (s := 200 + 27) (by omega) (by omega) (by decide)
  have n8 : c8 + 1 ≤ hz h8 := by omega
  generalize upK (upK (upK K7 (a8 + 1) (10 + 27)) b8 (100 + 27)) c8 (200 + 27) = K8 at *
  have x8 : x + 1 < hz h8 := Nat.lt_of_lt_of_le x7 g8.1
  refine wmk (Wm := Wm) (L' := [some (.inr (.inr (7, x + 1))), none]) (S' := []) (h' := h8) (cu' := 16) (su' := 221) ?_ rfl rfl e8.symm rfl rfl
  clear e8
  refine go (cut1 115) 60 104 _ _ _ _ _ ?_
  refine And.intro ⟨by decide, by decide⟩ (fun a9 ha9 => ?_)
  have ha9 : hz h8 ≤ a9 := ha9
  obtain ⟨a9, rfl⟩ : ∃ t, a9 = t + 1 := ⟨a9 - 1, by omega⟩
  refine And.intro ⟨by decide, by decide⟩ ?_
  refine c_searchInit (Nat.lt_succ_self _) (fun y9 s1 s2 s3 s4 s5 s6 hN9 => ?_)
  obtain ⟨h9, e9⟩ : ∃ h9 : hp, h9 = wfR y9 613 (x + 1) (a9 + 1) := ⟨_, rfl⟩
  obtain ⟨g9, f9, z9, r9, ⟨o1, o2, o3, o4, o5, o6, o7, o8⟩⟩ := step_search (K := K8) (A := x + 1) x8 ha9 (Nat.succ_ne_zero _) z8 hN9 h9 e9
  have k9 := (((((((k8.addL (c := a9 + 1) (s := 2) (by omega) (by omega) (by decide)).addL (c := s1) (s := 38) (by omega) (by omega) (by decide)).addL (c := s2) (s := 128) (by omega) (by omega) (by decide)).addL (c := s3) (s := 228) (by omega) (by omega) (by decide)).addL (c := s4) (s := 6) (by omega) (by omega) (by decide)).addL (c := s5) (s := 7) (by omega) (by omega) (by decide)).addL (c := s6) (s := 8) (by omega) (by omega) (by decide))
  have n9 : s6 + 1 ≤ hz h9 := by omega
  generalize upK (upK (upK (upK (upK (upK (upK (K8) (a9 + 1) 2) (s1) 38) (s2) 128) (s3) 228) (s4) 6) (s5) 7) (s6) 8 = K9 at *
  have x9 : x + 1 < hz h9 := Nat.lt_of_lt_of_le x8 g9.1
  refine wmk (Wm := Wm) (L' := [some (.inr (.inr (7, x + 1))), none]) (S' := []) (h' := h9) (cu' := 28) (su' := 289) ?_ rfl rfl e9.symm rfl rfl
  clear e9
  refine go (cut1 126) 60 115 _ _ _ _ _ ?_
  refine And.intro ⟨by decide, by decide⟩ (fun a10 ha10 => ?_)
  have ha10 : hz h9 ≤ a10 := ha10
  obtain ⟨a10, rfl⟩ : ∃ t, a10 = t + 1 := ⟨a10 - 1, by omega⟩
  refine And.intro ⟨by decide, by decide⟩ ?_
  refine c_askInit (fun y10 b10 hN10 => ?_)
  obtain ⟨h10, e10⟩ : ∃ h10 : hp, h10 = wfR y10 614 (x + 1) (a10 + 1) := ⟨_, rfl⟩
  obtain ⟨g10, f10, z10, r10, rz10, ⟨p1, p2, p3⟩⟩ := step_ask (K := K9) (A := x + 1) x9 ha10 (Nat.succ_ne_zero _) z9 hN10 h10 e10
  have k10 := (k9.addL (c := a10 + 1) (s := 3) (by omega) (by omega) (by decide)).addL (c := b10) (s := 5) (by omega) (by omega) (by decide)
  have n10 : b10 + 1 ≤ hz h10 := by omega
  generalize upK (upK K9 (a10 + 1) 3) b10 5 = K10 at *
  have x10 : x + 1 < hz h10 := Nat.lt_of_lt_of_le x9 g10.1
  refine wmk (Wm := Wm) (L' := [some (.inr (.inr (7, x + 1))), none]) (S' := []) (h' := h10) (cu' := 30) (su' := 311) ?_ rfl rfl e10.symm rfl rfl
  clear e10
  have w600 : hfR h10 600 (x + 1) = a1 := by rw [f10.1 600 (by decide), f9.1 600 (by decide), f8.1 600 (by decide), f7.1 600 (by decide), f6.1 600 (by decide), f5.1 600 (by decide), f4.1 600 (by decide), f3.1 600 (by decide), f2.1 600 (by decide)]; exact f1.2
  have w601 : hfR h10 601 (x + 1) = a2 := by rw [f10.1 601 (by decide), f9.1 601 (by decide), f8.1 601 (by decide), f7.1 601 (by decide), f6.1 601 (by decide), f5.1 601 (by decide), f4.1 601 (by decide), f3.1 601 (by decide)]; exact f2.2
  have w605 : hfR h10 605 (x + 1) = a3 + 1 := by rw [f10.1 605 (by decide), f9.1 605 (by decide), f8.1 605 (by decide), f7.1 605 (by decide), f6.1 605 (by decide), f5.1 605 (by decide), f4.1 605 (by decide)]; exact f3.2
  have w606 : hfR h10 606 (x + 1) = a4 + 1 := by rw [f10.1 606 (by decide), f9.1 606 (by decide), f8.1 606 (by decide), f7.1 606 (by decide), f6.1 606 (by decide), f5.1 606 (by decide)]; exact f4.2
  have w607 : hfR h10 607 (x + 1) = a5 := by rw [f10.1 607 (by decide), f9.1 607 (by decide), f8.1 607 (by decide), f7.1 607 (by decide), f6.1 607 (by decide)]; exact f5.2
  have w610 : hfR h10 610 (x + 1) = a6 := by rw [f10.1 610 (by decide), f9.1 610 (by decide), f8.1 610 (by decide), f7.1 610 (by decide)]; exact f6.2
  have w611 : hfR h10 611 (x + 1) = a7 := by rw [f10.1 611 (by decide), f9.1 611 (by decide), f8.1 611 (by decide)]; exact f7.2
  have w612 : hfR h10 612 (x + 1) = a8 + 1 := by rw [f10.1 612 (by decide), f9.1 612 (by decide)]; exact f8.2
  have w613 : hfR h10 613 (x + 1) = a9 + 1 := by rw [f10.1 613 (by decide)]; exact f9.2
  have w614 : hfR h10 614 (x + 1) = a10 + 1 := by exact f10.2
  have G10 : GX h10 K10 h10 K10 (x + 1) (x + 1) := GX.rf _ _ _ _
  have G9 : GX h9 K9 h10 K10 (x + 1) (x + 1) := g10.tr G10
  have G8 : GX h8 K8 h10 K10 (x + 1) (x + 1) := g9.tr G9
  have G7 : GX h7 K7 h10 K10 (x + 1) (x + 1) := g8.tr G8
  have G6 : GX h6 K6 h10 K10 (x + 1) (x + 1) := g7.tr G7
  have G5 : GX h5 K5 h10 K10 (x + 1) (x + 1) := g6.tr G6
  have G4 : GX h4 K4 h10 K10 (x + 1) (x + 1) := g5.tr G5
  have G3 : GX h3 K3 h10 K10 (x + 1) (x + 1) := g4.tr G4
  have G2 : GX h2 K2 h10 K10 (x + 1) (x + 1) := g3.tr G3
  have G1 : GX h1 K1 h10 K10 (x + 1) (x + 1) := g2.tr G2
  have G0 : GX h K0 h10 K10 (x + 1) (x + 1) := g1.tr G1
  have v1 : K1 (x + 1) = 1 := (g1.2.1 _ x0).trans q0
  have v2 : K2 (x + 1) = 1 := (g2.2.1 _ x1).trans v1
  have v3 : K3 (x + 1) = 1 := (g3.2.1 _ x2).trans v2
  have v4 : K4 (x + 1) = 1 := (g4.2.1 _ x3).trans v3
  have v5 : K5 (x + 1) = 1 := (g5.2.1 _ x4).trans v4
  have v6 : K6 (x + 1) = 1 := (g6.2.1 _ x5).trans v5
  have v7 : K7 (x + 1) = 1 := (g7.2.1 _ x6).trans v6
  have v8 : K8 (x + 1) = 1 := (g8.2.1 _ x7).trans v7
  have v9 : K9 (x + 1) = 1 := (g9.2.1 _ x8).trans v8
  have v10 : K10 (x + 1) = 1 := (g10.2.1 _ x9).trans v9
  have kz1 : KZ h1 K1 := k1.z n1
  have kz2 : KZ h2 K2 := k2.z n2
  have kz3 : KZ h3 K3 := k3.z n3
  have kz4 : KZ h4 K4 := k4.z n4
  have kz5 : KZ h5 K5 := k5.z n5
  have kz6 : KZ h6 K6 := k6.z n6
  have kz7 : KZ h7 K7 := k7.z n7
  have kz8 : KZ h8 K8 := k8.z n8
  have kz9 : KZ h9 K9 := k9.z n9
  have kz10 : KZ h10 K10 := k10.z n10
  have m9 : hfI h10 1 (a10 + 1) = 0 := rz10
  have PH : PH1 h10 K10 (x + 1) := by
    unfold PH1
    rw [w600, w601, w605, w606, w607, w610, w611, w612, w613, w614]
    refine ⟨⟨k10.1, v10, kz10, z10⟩, PL0.gx (h := h3) (K := K3) ⟨r3, rz3, ry3⟩ v3 G3, ⟨r4.gx kz4 v4 G4, rz4.gx r4 kz4 v4 G4⟩, ⟨r2.gx (by omega) (by omega) kz2 v2 G2, r2.gz (by omega) (by omega) kz2 v2 G2 ri2⟩, r5.gx (by omega) (by omega) kz5 v5 G5, r6.gx (by omega) (by omega) kz6 v6 G6, r7.gx (by omega) (by omega) kz7 v7 G7, r8.gx kz8 v8 G8, r9.gx kz9 v9 G9, ⟨r10, m9⟩, r1.gx (by omega) (by omega) kz1 v1 G1, ?_, ?_⟩
    · rw [G1.2.2.2 a1 (by omega) (by omega)]; exact rz1
    · rw [G6.2.2.2 a6 (by omega) (by omega)]; exact rz6
  have ah5 : a5 < hz h10 := by have := G5.1; omega
  have ah7 : a7 < hz h10 := by have := G7.1; omega
  have ne57 : a5 ≠ a7 := by have := g6.1; omega
  have a5x : a5 ≠ x + 1 := by omega
  have a7x : a7 ≠ x + 1 := by omega
  have ne51 : a5 ≠ a1 := by have := g2.1; have := g3.1; have := g4.1; omega
  have ne71 : a7 ≠ a1 := by have := g2.1; have := g3.1; have := g4.1; have := g5.1; have := g6.1; omega
  have ne56 : a5 ≠ a6 := by omega
  have ne76 : a7 ≠ a6 := by omega
  have ge5 : hz h ≤ a5 := by have := g1.1; have := g2.1; have := g3.1; have := g4.1; omega
  have ge7 : hz h ≤ a7 := by have := g5.1; have := g6.1; omega
  have ar5 := PH.2.2.2.2.1
  have ar7 := PH.2.2.2.2.2.2.1
  rw [w607] at ar5
  rw [w611] at ar7
  have old : ∀ z, z < hz h → z ≠ x + 1 → K10 z = 500 := fun z l1 l2 => (G0.2.1 z l1).trans (q5 z l2)
  clear g1 g2 g3 g4 g5 g6 g7 g8 g9 g10 G1 G2 G3 G4 G5 G6 G7 G8 G9 G10
  refine go (cut1 128) 60 126 _ _ _ _ _ ?_
  obtain ⟨U, hU⟩ : ∃ U : Nat → Prop, U = fun u => u ∈ [5, 3, 8, 7, 6, 228, 128, 38, 2, 227, 127, 37, 53, 52, 51, 200, 100, 10, 4, 50, 1] := ⟨_, rfl⟩
  have kU : KK (hz h10) K10 U := by rw [hU]; exact k10.mono n10 (fun u hu => hu)
  have uA : ∀ i, i < 24 → ¬ U (11 + i) ∧ ¬ U (101 + i) ∧ ¬ U (201 + i) := by
    rw [hU]
    intro i hi
    simp only [List.mem_cons, List.not_mem_nil, or_false]
    omega
  have uB : ∀ i, i < 2 → ¬ U (35 + i) ∧ ¬ U (125 + i) ∧ ¬ U (225 + i) := by
    rw [hU]
    intro i hi
    simp only [List.mem_cons, List.not_mem_nil, or_false]
    omega
  clear hU
  refine upto (n := 24) (P := fun i => ∀ hc Kc, GX h10 K10 hc Kc (x + 1) a5 → KK (hz hc) Kc (fun u => U u ∨ ∃ j, j < i ∧ (u = 11 + j ∨ u = 101 + j ∨ u = 201 + j)) → ZX hc (x + 1) → (∀ f, hfR hc f (x + 1) = hfR h10 f (x + 1)) → (∀ j, j < i → SS hc Kc (haR hc a5 j) (1 + j) ∧ ZS hc (haR hc a5 j)) → Wm 128 [some (.inr (.inr (7, x + 1))), some (.inl (nI i))] [] hc (30 + 3 * i) (311 + 16 * i)) (fun i hi ih hc Kc y1 y2 y3 y4 y5 => ?_) 0 (Nat.zero_le _) h10 K10 (GX.rf _ _ _ _) (kU.mono (Nat.le_refl _) (fun u hu => Or.inl hu)) z10 (fun _ => rfl) (fun j hj => absurd hj (Nat.not_lt_zero j))
  have xc : x + 1 < hz hc := Nat.lt_of_lt_of_le x10 y1.1
  have c607 : hfR hc 607 (x + 1) = a5 := (y4 607).trans w607
  refine go (cut2 128 153) 60 128 _ _ _ _ _ ?_
  refine icg rfl (show (24 : Int32) = nI 24 from rfl) (by omega) (by omega) (fun c => ?_) (fun c => ?_)
  · have e : i = 24 := by omega
    subst e
    clear ih
    have PH' : PH1 hc Kc (x + 1) := PH.gx y2.1 y2.2.1 x10 y3 y1 y4 (by rw [w600]; exact ne51) (by rw [w610]; exact ne56)
    refine go (cut1 155) 20 153 _ _ _ _ _ ?_
    refine upto (n := 2) (P := fun i => ∀ hd Kd, GX hc Kc hd Kd (x + 1) a7 → KK (hz hd) Kd (fun u => (U u ∨ ∃ j, j < 24 ∧ (u = 11 + j ∨ u = 101 + j ∨ u = 201 + j)) ∨ ∃ j, j < i ∧ (u = 35 + j ∨ u = 125 + j ∨ u = 225 + j)) → ZX hd (x + 1) → (∀ f, hfR hd f (x + 1) = hfR h10 f (x + 1)) → (∀ j, j < i → SS hd Kd (haR hd a7 j) (25 + j) ∧ ZS hd (haR hd a7 j)) → Wm 155 [some (.inr (.inr (7, x + 1))), some (.inl (nI i))] [] hd (102 + 3 * i) (695 + 16 * i)) (fun i hi ih hd Kd t1 t2 t3 t4 t5 => ?_) 0 (Nat.zero_le _) hc Kc (GX.rf _ _ _ _) (y2.mono (Nat.le_refl _) (fun u hu => Or.inl hu)) y3 y4 (fun j hj => absurd hj (Nat.not_lt_zero j))
    have xd : x + 1 < hz hd := Nat.lt_of_lt_of_le xc t1.1
    have c611 : hfR hd 611 (x + 1) = a7 := (t4 611).trans w611
    have cd7 : hfR hd 607 (x + 1) = a5 := (t4 607).trans w607
    refine go (cut1 155) 60 155 _ _ _ _ _ ?_
    refine icg rfl (show (2 : Int32) = nI 2 from rfl) (by omega) (by omega) (fun c2 => ?_) (fun c2 => ?_)
    · have e : i = 2 := by omega
      subst e
      have PH2 : PH1 hd Kd (x + 1) := PH'.gx t2.1 t2.2.1 xc t3 t1 (fun f => (t4 f).trans (y4 f).symm) (by rw [y4, w600]; exact ne71) (by rw [y4, w610]; exact ne76)
      refine hk hd Kd ⟨⟨Nat.le_trans G0.1 (Nat.le_trans y1.1 t1.1), fun z l1 l2 => ?_⟩, PH2, fun j hj => ?_, fun j hj => ?_, fun z l1 l2 => ?_⟩
      · have m1 : z < hz h10 := Nat.lt_of_lt_of_le l1 G0.1
        have m2 : z < hz hc := Nat.lt_of_lt_of_le m1 y1.1
        obtain ⟨s1, s2, s3, s4⟩ := G0.2.2.1 z l1 l2
        obtain ⟨s5, s6, s7, s8⟩ := y1.2.2.1 z m1 l2
        obtain ⟨s9, s10, s11, s12⟩ := t1.2.2.1 z m2 l2
        exact ⟨fun f => (s9 f).trans ((s5 f).trans (s1 f)), fun f => (s10 f).trans ((s6 f).trans (s2 f)), s11.trans (s7.trans s3), s12.trans (s8.trans s4), (t1.2.2.2 z m2 (by omega)).trans ((y1.2.2.2 z m1 (by omega)).trans (G0.2.2.2 z l1 l2))⟩
      · rw [cd7, t1.2.2.2 a5 (by have := y1.1; omega) ne57]
        exact ⟨(y5 j hj).1.gx y2.2.1 PH'.1.2.1 t1, (y5 j hj).2.gx (y5 j hj).1 y2.2.1 PH'.1.2.1 t1⟩
      · rw [c611]
        exact t5 j hj
      · have m1 : z < hz h10 := Nat.lt_of_lt_of_le l1 G0.1
        have m2 : z < hz hc := Nat.lt_of_lt_of_le m1 y1.1
        rw [t1.2.1 z m2, y1.2.1 z m1]
        exact old z l1 l2
    · have ih := ih c2
      refine And.intro ⟨by omega, by omega⟩ (fun s hs => ?_)
      have hs : hz hd ≤ s := hs
      obtain ⟨s, rfl⟩ : ∃ t, s = t + 1 := ⟨s - 1, by omega⟩
      refine And.intro ⟨show 102 + 3 * i + 1 + 2 ≤ 108 by omega, show 695 + 16 * i + 4 + 12 ≤ 727 by omega⟩ ?_
      refine c_stateInit (fun hy a b hN => ?_)
      obtain ⟨hn, en⟩ : ∃ hn : hp, hn = waR hy a7 (va_up (haR hy a7) i (s + 1)) := ⟨_, rfl⟩
      have l7 : a7 < hz hd := by have := y1.1; have := t1.1; omega
      obtain ⟨b1, b2, b3, b4, b5, b6, ⟨b7, b8, b9, b10⟩⟩ := step_stateA (K := Kd) (s := 25 + i) xd l7 hs (Nat.succ_ne_zero _) t3 (by omega) hN hn en
      have eA : haL hy a7 = 2 := by
        have := ((EXn.new hs hN.1).2 a7 l7).2.2.2.1
        rw [this, (t1.2.2.1 a7 (by have := y1.1; omega) a7x).2.2.2, (y1.2.2.1 a7 ah7 a7x).2.2.2]
        exact ar7.2.2
      have ka := (((t2.add (c := s + 1) (s := 10 + (25 + i)) hs (by omega) ?_).add (c := a) (s := 100 + (25 + i)) (by omega) (by omega) ?_).add (c := b) (s := 200 + (25 + i)) (by omega) (by omega) ?_)
      · refine nz (by rw [c611]; have := ar7.1; exact this) (And.intro ?_ ?_)
        · show vp_in (nI i) (haL hy (hfR hd 611 (x + 1)))
          rw [c611, eA]; exact vp_in_nI c2 (by omega)
        have e := ih hn _ (t1.tr b1) (ka.mono (by omega) (fun u hu => ?_)) b3 (fun f => (b2 f).trans (t4 f)) (fun j hj => ?_)
        · rw [← nI_1] at e
          refine wmk (Wm := Wm) e rfl rfl ?_ (show 102 + 3 * i + 1 + 2 = 102 + 3 * (i + 1) by omega) (show 695 + 16 * i + 4 + 12 = 695 + 16 * (i + 1) by omega)
          show waR hy (hfR hd 611 (x + 1)) (va_up (haR hy (hfR hd 611 (x + 1))) (nI i).toNatClampNeg (s + 1)) = hn
          rw [c611, nI_clamp (by omega), en]
        · rcases hu with ((hu | hu) | hu) | hu
          · rcases hu with hu | ⟨j, hj, hu⟩
            · exact Or.inl hu
            · exact Or.inr ⟨j, by omega, hu⟩
          · exact Or.inr ⟨i, by omega, Or.inl (by omega)⟩
          · exact Or.inr ⟨i, by omega, Or.inr (Or.inl (by omega))⟩
          · exact Or.inr ⟨i, by omega, Or.inr (Or.inr (by omega))⟩
        · rw [b6]
          by_cases qj : j = i
          · subst qj
            rw [va_up_self]
            exact ⟨b4, b5⟩
          · rw [va_up_ne _ _ qj]
            have t5 := t5 j (by omega)
            have kx : Kd (x + 1) = 1 := (t1.2.1 _ xc).trans PH'.1.2.1
            exact ⟨t5.1.gx t2.2.1 kx b1, t5.2.gx t5.1 t2.2.1 kx b1⟩
      · rintro (hu | ⟨j, hj, hu⟩)
        · rcases hu with hu | ⟨j, hj, hu⟩
          · exact (uB i c2).1 (by rw [show 35 + i = 10 + (25 + i) by omega]; exact hu)
          · omega
        · omega
      · rintro (hu | hu)
        · rcases hu with hu | ⟨j, hj, hu⟩
          · rcases hu with hu | ⟨j, hj, hu⟩
            · exact (uB i c2).2.1 (by rw [show 125 + i = 100 + (25 + i) by omega]; exact hu)
            · omega
          · omega
        · omega
      · rintro (hu | hu)
        · rcases hu with hu | hu
          · rcases hu with hu | ⟨j, hj, hu⟩
            · rcases hu with hu | ⟨j, hj, hu⟩
              · exact (uB i c2).2.2 (by rw [show 225 + i = 200 + (25 + i) by omega]; exact hu)
              · omega
            · omega
          · omega
        · omega
  · have ih := ih c
    refine And.intro ⟨by omega, by omega⟩ (fun s hs => ?_)
    have hs : hz hc ≤ s := hs
    obtain ⟨s, rfl⟩ : ∃ t, s = t + 1 := ⟨s - 1, by omega⟩
    refine And.intro ⟨show 30 + 3 * i + 1 + 2 ≤ 108 by omega, show 311 + 16 * i + 4 + 12 ≤ 727 by omega⟩ ?_
    refine c_stateInit (fun hy a b hN => ?_)
    obtain ⟨hn, en⟩ : ∃ hn : hp, hn = waR hy a5 (va_up (haR hy a5) i (s + 1)) := ⟨_, rfl⟩
    have l5 : a5 < hz hc := by have := y1.1; omega
    obtain ⟨b1, b2, b3, b4, b5, b6, ⟨b7, b8, b9, b10⟩⟩ := step_stateA (K := Kc) (s := 1 + i) xc l5 hs (Nat.succ_ne_zero _) y3 (by omega) hN hn en
    have eA : haL hy a5 = 24 := by
      have := ((EXn.new hs hN.1).2 a5 l5).2.2.2.1
      rw [this, (y1.2.2.1 a5 ah5 a5x).2.2.2]
      exact ar5.2.2
    have ka := (((y2.add (c := s + 1) (s := 10 + (1 + i)) hs (by omega) ?_).add (c := a) (s := 100 + (1 + i)) (by omega) (by omega) ?_).add (c := b) (s := 200 + (1 + i)) (by omega) (by omega) ?_)
    · refine nz (by rw [c607]; have := ar5.1; exact this) (And.intro ?_ ?_)
      · show vp_in (nI i) (haL hy (hfR hc 607 (x + 1)))
        rw [c607, eA]; exact vp_in_nI c (by omega)
      have e := ih hn _ (y1.tr b1) (ka.mono (by omega) (fun u hu => ?_)) b3 (fun f => (b2 f).trans (y4 f)) (fun j hj => ?_)
      · rw [← nI_1] at e
        refine wmk (Wm := Wm) e rfl rfl ?_ (show 30 + 3 * i + 1 + 2 = 30 + 3 * (i + 1) by omega) (show 311 + 16 * i + 4 + 12 = 311 + 16 * (i + 1) by omega)
        show waR hy (hfR hc 607 (x + 1)) (va_up (haR hy (hfR hc 607 (x + 1))) (nI i).toNatClampNeg (s + 1)) = hn
        rw [c607, nI_clamp (by omega), en]
      · rcases hu with ((hu | hu) | hu) | hu
        · rcases hu with hu | ⟨j, hj, hu⟩
          · exact Or.inl hu
          · exact Or.inr ⟨j, by omega, hu⟩
        · exact Or.inr ⟨i, by omega, Or.inl (by omega)⟩
        · exact Or.inr ⟨i, by omega, Or.inr (Or.inl (by omega))⟩
        · exact Or.inr ⟨i, by omega, Or.inr (Or.inr (by omega))⟩
      · rw [b6]
        by_cases qj : j = i
        · subst qj
          rw [va_up_self]
          exact ⟨b4, b5⟩
        · rw [va_up_ne _ _ qj]
          have y5 := y5 j (by omega)
          have kx : Kc (x + 1) = 1 := (y1.2.1 _ x10).trans PH.1.2.1
          exact ⟨y5.1.gx y2.2.1 kx b1, y5.2.gx y5.1 y2.2.1 kx b1⟩
    · rintro (hu | ⟨j, hj, hu⟩)
      · exact (uA i c).1 (by rw [show 11 + i = 10 + (1 + i) by omega]; exact hu)
      · omega
    · rintro (hu | hu)
      · rcases hu with hu | ⟨j, hj, hu⟩
        · exact (uA i c).2.1 (by rw [show 101 + i = 100 + (1 + i) by omega]; exact hu)
        · omega
      · omega
    · rintro (hu | hu)
      · rcases hu with hu | hu
        · rcases hu with hu | ⟨j, hj, hu⟩
          · exact (uA i c).2.2 (by rw [show 201 + i = 200 + (1 + i) by omega]; exact hu)
          · omega
        · omega
      · omega
