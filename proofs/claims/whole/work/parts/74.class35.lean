/-! ===== the class: a new castle ===== -/
def INI (h h' : hp) (K : Nat → Nat) (x : Nat) : Prop := EXn h h' x ∧ PH1 h' K x ∧ (∀ j, j < 8 → RW1 h' K (haR h' (hfR h' 600 x) j) j ∧ hfI h' 302 (haR h' (hfR h' 600 x) j) = -1) ∧ (∀ i, i < 24 → SS h' K (haR h' (hfR h' 606 x) i) (1 + i) ∧ ZS h' (haR h' (hfR h' 606 x) i)) ∧ (∀ i, i < 2 → PQ h' K (haR h' (hfR h' 609 x) i) (1 + i) ∧ ZP h' (haR h' (hfR h' 609 x) i)) ∧ (∀ i, i < 2 → SS h' K (haR h' (hfR h' 610 x) i) (25 + i) ∧ ZS h' (haR h' (hfR h' 610 x) i)) ∧ (∀ z, z < hz h → z ≠ x → K z = 500)
abbrev noA : Nat → Prop := fun _ => False
theorem IV.ini {h hd : hp} {K0 Kd : Nat → Nat} {x : Nat} (hI : IV h K0 x (US 8 24 2 2) 8 24 2 2 hd Kd) (q5 : ∀ z, z ≠ x → K0 z = 500) : INI h hd Kd x := by
  obtain ⟨y1, y2, y3, y4, y5, y6, y7, y8⟩ := hI
  refine ⟨⟨y1.1, fun z l1 l2 => ?_⟩, y3, y5, y6, y7, y8, fun z l1 l2 => (y1.2.1 z l1).trans (q5 z l2)⟩
  obtain ⟨s1, s2, s3, s4⟩ := y1.2.2.1 z l1 l2
  exact ⟨s1, s2, s3, s4, y1.2.2.2 z l1 (by omega)⟩
set_option maxRecDepth 20000 in
theorem c_castleInit {d x : Nat} {h : hp} {kk : Rt} (hx : x + 1 < hz h) (h0 : ZX h (x + 1)) (hk : ∀ h' K, INI h h' K (x + 1) → kk none h') : CL (d + 3) mX6_init 139 1177 [.inr (.inr (7, x + 1))] h kk := by
  obtain ⟨K0, hK0⟩ : ∃ K0 : Nat → Nat, K0 = upK (fun _ => 500) (x + 1) 1 := ⟨_, rfl⟩
  have q0 : K0 (x + 1) = 1 := by rw [hK0]; exact upK_eq
  have q5 : ∀ z, z ≠ x + 1 → K0 z = 500 := fun z hne => by rw [hK0]; exact upK_ne hne
  have k0 : KK (hz h) K0 (fun u => u ∈ [1]) := by
    refine ⟨fun z z' e1 e2 => ?_, fun z e1 => by rw [q5 z (by omega)]; decide, fun z e1 => ?_⟩
    · by_cases c1 : z = x + 1
      · by_cases c2 : z' = x + 1
        · rw [c1, c2]
        · rw [c1, q0, q5 z' c2] at e2; omega
      · rw [q5 z c1] at e1; omega
    · by_cases c1 : z = x + 1
      · rw [c1, q0]; exact List.mem_cons_self
      · rw [q5 z c1] at e1; omega
  clear hK0
  have x0 : x + 1 < hz h := hx
  have n0 : hz h ≤ hz h := Nat.le_refl _
  have z0 := h0
  refine mw T_X6_init (fun Wm go => go (cut1 13) 60 0 _ _ _ _ _ ?_)
  refine And.intro ⟨by decide, by decide⟩ (And.intro ⟨by decide, by decide⟩ (fun a1 ha1 => ?_))
  have ha1 : hz h ≤ a1 := ha1
  obtain ⟨h1, e1⟩ : ∃ h1 : hp, h1 = wfR (warr h a1 8) 600 (x + 1) a1 := ⟨_, rfl⟩
  obtain ⟨g1, f1, z1, r1, hh1⟩ := step_arr (K := K0) (A := noA) (s := 50) x0 ha1 z0 h1 e1 (by omega)
  have k1 := k0.addL (c := a1) (s := 50) (by omega) (by omega) (by decide)
  have n1 : a1 + 1 ≤ hz h1 := by omega
  have ge1 : hz h ≤ a1 := ha1
  generalize upK K0 a1 50 = K1 at *
  have x1 : x + 1 < hz h1 := Nat.lt_of_lt_of_le x0 g1.1
  refine wmk (Wm := Wm) (L' := [some (.inr (.inr (7, x + 1))), none]) (S' := []) (h' := h1) (cu' := 1) (su' := 8) ?_ rfl rfl e1.symm rfl rfl
  clear e1
  refine go (cut1 34) 60 13 _ _ _ _ _ ?_
  refine And.intro ⟨by decide, by decide⟩ (fun a2 ha2 => ?_)
  have ha2 : hz h1 ≤ a2 := ha2
  obtain ⟨a2, rfl⟩ : ∃ t, a2 = t + 1 := ⟨a2 - 1, by omega⟩
  refine And.intro ⟨by decide, by decide⟩ ?_
  refine c_readerInit (Nat.lt_succ_self _) (fun y2 b2 c2 d2 m2 u2 v2 w2 hN2 => ?_)
  obtain ⟨h2, e2⟩ : ∃ h2 : hp, h2 = wfR y2 601 (x + 1) (a2 + 1) := ⟨_, rfl⟩
  obtain ⟨E2, B2, R2, S2, o1, o2, o3, o4, o5, o6, o7, o8⟩ := new_reader (K := K1) ha2 (Nat.succ_ne_zero _) hN2
  have np : hfR y2 200 (a2 + 1) ≠ x + 1 := by have := hN2.2.2.2.2.1; omega
  have zy2 : hz h2 = hz y2 := by rw [e2]; rfl
  obtain ⟨g2, f2, z2⟩ := step_fld (A := noA) x1 z1 E2 B2 h2 e2
  obtain ⟨r2, s2⟩ : RDR h2 (kRd K1 (a2 + 1) b2 c2 d2 m2 u2 v2 w2) (a2 + 1) ∧ (haI h2 (hfR h2 201 (a2 + 1)) = zf ∧ hfI h2 202 (a2 + 1) = 0) := by rw [e2]; exact R2.wf S2 (show a2 + 1 ≠ x + 1 by omega) np
  have k2 : KK (w2 + 1) (kRd K1 (a2 + 1) b2 c2 d2 m2 u2 v2 w2) (fun u => u ∈ _) := ((((((((k1.addL (c := a2 + 1) (s := 9) (by omega) (by omega) (by decide)).addL (c := b2) (s := 413) (by omega) (by omega) (by decide)).addL (c := c2) (s := 450) (by omega) (by omega) (by decide)).addL (c := d2) (s := 451) (by omega) (by omega) (by decide)).addL (c := m2) (s := 452) (by omega) (by omega) (by decide)).addL (c := u2) (s := 453) (by omega) (by omega) (by decide)).addL (c := v2) (s := 454) (by omega) (by omega) (by decide)).addL (c := w2) (s := 4) (by omega) (by omega) (by decide))
  have n2 : w2 + 1 ≤ hz h2 := by omega
  generalize kRd K1 (a2 + 1) b2 c2 d2 m2 u2 v2 w2 = K2 at *
  have x2 : x + 1 < hz h2 := Nat.lt_of_lt_of_le x1 g2.1
  refine wmk (Wm := Wm) (L' := [some (.inr (.inr (7, x + 1))), none]) (S' := []) (h' := h2) (cu' := 9) (su' := 175) ?_ rfl rfl (by show wfI (wfI (wfR y2 601 (x + 1) (a2 + 1)) 602 (x + 1) 0) 603 (x + 1) 0 = h2; rw [← e2, wfI_id (z2 602), wfI_id (z2 603)]) rfl rfl
  clear e2
  refine go (cut1 45) 60 34 _ _ _ _ _ ?_
  refine And.intro ⟨by decide, by decide⟩ (fun a3 ha3 => ?_)
  have ha3 : hz h2 ≤ a3 := ha3
  obtain ⟨a3, rfl⟩ : ∃ t, a3 = t + 1 := ⟨a3 - 1, by omega⟩
  refine And.intro ⟨by decide, by decide⟩ ?_
  refine c_planInit (fun y3 b3 c3 d3 m3 u3 hN3 => ?_)
  obtain ⟨h3, e3⟩ : ∃ h3 : hp, h3 = wfR y3 604 (x + 1) (a3 + 1) := ⟨_, rfl⟩
  obtain ⟨E3, B3, R3, S3, o1, o2, o3, o4, o5, o6⟩ := new_plan (K := K2) (q := 0) ha3 (Nat.succ_ne_zero _) (by omega) hN3
  have zy3 : hz h3 = hz y3 := by rw [e3]; rfl
  obtain ⟨g3, f3, z3⟩ := step_fld (A := noA) x2 z2 E3 B3 h3 e3
  have r3 : PQ h3 (kPl K2 (a3 + 1) b3 c3 d3 m3 u3 0) (a3 + 1) 0 := by rw [e3]; exact R3.wf (show a3 + 1 ≠ x + 1 by omega)
  have s3 : ZP h3 (a3 + 1) := by rw [e3]; exact S3.wf (show a3 + 1 ≠ x + 1 by omega)
  have k3 : KK (u3 + 1) (kPl K2 (a3 + 1) b3 c3 d3 m3 u3 0) (fun u => u ∈ _) := ((((((k2.addL (c := a3 + 1) (s := 410) (by omega) (by omega) (by decide)).addL (c := b3) (s := 420) (by omega) (by omega) (by decide)).addL (c := c3) (s := 421) (by omega) (by omega) (by decide)).addL (c := d3) (s := 422) (by omega) (by omega) (by decide)).addL (c := m3) (s := 423) (by omega) (by omega) (by decide)).addL (c := u3) (s := 424) (by omega) (by omega) (by decide))
  have n3 : u3 + 1 ≤ hz h3 := by omega
  generalize kPl K2 (a3 + 1) b3 c3 d3 m3 u3 0 = K3 at *
  have x3 : x + 1 < hz h3 := Nat.lt_of_lt_of_le x2 g3.1
  refine wmk (Wm := Wm) (L' := [some (.inr (.inr (7, x + 1))), none]) (S' := []) (h' := h3) (cu' := 15) (su' := 217) ?_ rfl rfl e3.symm rfl rfl
  clear e3
  refine go (cut1 56) 60 45 _ _ _ _ _ ?_
  refine And.intro ⟨by decide, by decide⟩ (fun a4 ha4 => ?_)
  have ha4 : hz h3 ≤ a4 := ha4
  obtain ⟨a4, rfl⟩ : ∃ t, a4 = t + 1 := ⟨a4 - 1, by omega⟩
  refine And.intro ⟨by decide, by decide⟩ ?_
  refine c_stateInit (fun y4 b4 c4 hN4 => ?_)
  obtain ⟨h4, e4⟩ : ∃ h4 : hp, h4 = wfR y4 605 (x + 1) (a4 + 1) := ⟨_, rfl⟩
  obtain ⟨E4, B4, R4, S4, o1, o2, o3⟩ := new_state (K := K3) (s := 0) ha4 (Nat.succ_ne_zero _) (by omega) hN4
  have zy4 : hz h4 = hz y4 := by rw [e4]; rfl
  obtain ⟨g4, f4, z4⟩ := step_fld (A := noA) x3 z3 E4 B4 h4 e4
  have r4 : SS h4 (kSt K3 (a4 + 1) b4 c4 0) (a4 + 1) 0 := by rw [e4]; exact R4.wf (show a4 + 1 ≠ x + 1 by omega)
  have s4 : ZS h4 (a4 + 1) := by rw [e4]; exact S4.wf (show a4 + 1 ≠ x + 1 by omega)
  have k4 : KK (c4 + 1) (kSt K3 (a4 + 1) b4 c4 0) (fun u => u ∈ _) := (((k3.addL (c := a4 + 1) (s := 10) (by omega) (by omega) (by decide)).addL (c := b4) (s := 100) (by omega) (by omega) (by decide)).addL (c := c4) (s := 200) (by omega) (by omega) (by decide))
  have n4 : c4 + 1 ≤ hz h4 := by omega
  generalize kSt K3 (a4 + 1) b4 c4 0 = K4 at *
  have x4 : x + 1 < hz h4 := Nat.lt_of_lt_of_le x3 g4.1
  refine wmk (Wm := Wm) (L' := [some (.inr (.inr (7, x + 1))), none]) (S' := []) (h' := h4) (cu' := 18) (su' := 233) ?_ rfl rfl e4.symm rfl rfl
  clear e4
  refine go (cut1 75) 60 56 _ _ _ _ _ ?_
  refine And.intro ⟨by decide, by decide⟩ (And.intro ⟨by decide, by decide⟩ (fun a5 ha5 => ?_))
  have ha5 : hz h4 ≤ a5 := ha5
  obtain ⟨h5, e5⟩ : ∃ h5 : hp, h5 = wfR (warr h4 a5 24) 606 (x + 1) a5 := ⟨_, rfl⟩
  obtain ⟨g5, f5, z5, r5, hh5⟩ := step_arr (K := K4) (A := noA) (s := 51) x4 ha5 z4 h5 e5 (by omega)
  have k5 := k4.addL (c := a5) (s := 51) (by omega) (by omega) (by decide)
  have n5 : a5 + 1 ≤ hz h5 := by omega
  have ge5 : hz h4 ≤ a5 := ha5
  generalize upK K4 a5 51 = K5 at *
  have x5 : x + 1 < hz h5 := Nat.lt_of_lt_of_le x4 g5.1
  refine wmk (Wm := Wm) (L' := [some (.inr (.inr (7, x + 1))), none]) (S' := []) (h' := h5) (cu' := 19) (su' := 257) ?_ rfl rfl (by show wfI (wfI (wfR (warr h4 a5 24) 606 (x + 1) a5) 607 (x + 1) 0) 608 (x + 1) 0 = h5; rw [← e5, wfI_id (z5 607), wfI_id (z5 608)]) rfl rfl
  clear e5
  refine go (cut1 83) 60 75 _ _ _ _ _ ?_
  refine And.intro ⟨by decide, by decide⟩ (And.intro ⟨by decide, by decide⟩ (fun a6 ha6 => ?_))
  have ha6 : hz h5 ≤ a6 := ha6
  obtain ⟨h6, e6⟩ : ∃ h6 : hp, h6 = wfR (warr h5 a6 2) 609 (x + 1) a6 := ⟨_, rfl⟩
  obtain ⟨g6, f6, z6, r6, hh6⟩ := step_arr (K := K5) (A := noA) (s := 52) x5 ha6 z5 h6 e6 (by omega)
  have k6 := k5.addL (c := a6) (s := 52) (by omega) (by omega) (by decide)
  have n6 : a6 + 1 ≤ hz h6 := by omega
  have ge6 : hz h5 ≤ a6 := ha6
  generalize upK K5 a6 52 = K6 at *
  have x6 : x + 1 < hz h6 := Nat.lt_of_lt_of_le x5 g6.1
  refine wmk (Wm := Wm) (L' := [some (.inr (.inr (7, x + 1))), none]) (S' := []) (h' := h6) (cu' := 20) (su' := 259) ?_ rfl rfl e6.symm rfl rfl
  clear e6
  refine go (cut1 91) 60 83 _ _ _ _ _ ?_
  refine And.intro ⟨by decide, by decide⟩ (And.intro ⟨by decide, by decide⟩ (fun a7 ha7 => ?_))
  have ha7 : hz h6 ≤ a7 := ha7
  obtain ⟨h7, e7⟩ : ∃ h7 : hp, h7 = wfR (warr h6 a7 2) 610 (x + 1) a7 := ⟨_, rfl⟩
  obtain ⟨g7, f7, z7, r7, hh7⟩ := step_arr (K := K6) (A := noA) (s := 53) x6 ha7 z6 h7 e7 (by omega)
  have k7 := k6.addL (c := a7) (s := 53) (by omega) (by omega) (by decide)
  have n7 : a7 + 1 ≤ hz h7 := by omega
  have ge7 : hz h6 ≤ a7 := ha7
  generalize upK K6 a7 53 = K7 at *
  have x7 : x + 1 < hz h7 := Nat.lt_of_lt_of_le x6 g7.1
  refine wmk (Wm := Wm) (L' := [some (.inr (.inr (7, x + 1))), none]) (S' := []) (h' := h7) (cu' := 21) (su' := 261) ?_ rfl rfl e7.symm rfl rfl
  clear e7
  refine go (cut1 102) 60 91 _ _ _ _ _ ?_
  refine And.intro ⟨by decide, by decide⟩ (fun a8 ha8 => ?_)
  have ha8 : hz h7 ≤ a8 := ha8
  obtain ⟨a8, rfl⟩ : ∃ t, a8 = t + 1 := ⟨a8 - 1, by omega⟩
  refine And.intro ⟨by decide, by decide⟩ ?_
  refine c_stateInit (fun y8 b8 c8 hN8 => ?_)
  obtain ⟨h8, e8⟩ : ∃ h8 : hp, h8 = wfR y8 611 (x + 1) (a8 + 1) := ⟨_, rfl⟩
  obtain ⟨E8, B8, R8, S8, o1, o2, o3⟩ := new_state (K := K7) (s := 27) ha8 (Nat.succ_ne_zero _) (by omega) hN8
  have zy8 : hz h8 = hz y8 := by rw [e8]; rfl
  obtain ⟨g8, f8, z8⟩ := step_fld (A := noA) x7 z7 E8 B8 h8 e8
  have r8 : SS h8 (kSt K7 (a8 + 1) b8 c8 27) (a8 + 1) 27 := by rw [e8]; exact R8.wf (show a8 + 1 ≠ x + 1 by omega)
  have s8 : ZS h8 (a8 + 1) := by rw [e8]; exact S8.wf (show a8 + 1 ≠ x + 1 by omega)
  have k8 : KK (c8 + 1) (kSt K7 (a8 + 1) b8 c8 27) (fun u => u ∈ _) := (((k7.addL (c := a8 + 1) (s := 37) (by omega) (by omega) (by decide)).addL (c := b8) (s := 127) (by omega) (by omega) (by decide)).addL (c := c8) (s := 227) (by omega) (by omega) (by decide))
  have n8 : c8 + 1 ≤ hz h8 := by omega
  generalize kSt K7 (a8 + 1) b8 c8 27 = K8 at *
  have x8 : x + 1 < hz h8 := Nat.lt_of_lt_of_le x7 g8.1
  refine wmk (Wm := Wm) (L' := [some (.inr (.inr (7, x + 1))), none]) (S' := []) (h' := h8) (cu' := 24) (su' := 277) ?_ rfl rfl e8.symm rfl rfl
  clear e8
  refine go (cut1 113) 60 102 _ _ _ _ _ ?_
  refine And.intro ⟨by decide, by decide⟩ (fun a9 ha9 => ?_)
  have ha9 : hz h8 ≤ a9 := ha9
  obtain ⟨a9, rfl⟩ : ∃ t, a9 = t + 1 := ⟨a9 - 1, by omega⟩
  refine And.intro ⟨by decide, by decide⟩ ?_
  refine c_searchInit (Nat.lt_succ_self _) (fun y9 b9 c9 d9 m9 u9 v9 hN9 => ?_)
  obtain ⟨h9, e9⟩ : ∃ h9 : hp, h9 = wfR y9 612 (x + 1) (a9 + 1) := ⟨_, rfl⟩
  obtain ⟨E9, B9, R9, o1, o2, o3, o4, o5, o6, o7⟩ := new_search (K := K8) (f := 612) ha9 (Nat.succ_ne_zero _) x8 hN9
  have zy9 : hz h9 = hz y9 := by rw [e9]; rfl
  obtain ⟨g9, f9, z9⟩ := step_fld (A := noA) x8 z8 E9 B9 h9 e9
  have r9 : SE h9 (kSe K8 (a9 + 1) b9 c9 d9 m9 u9 v9) (a9 + 1) := by rw [e9]; exact R9
  have k9 : KK (v9 + 1) (kSe K8 (a9 + 1) b9 c9 d9 m9 u9 v9) (fun u => u ∈ _) := (((((((k8.addL (c := a9 + 1) (s := 2) (by omega) (by omega) (by decide)).addL (c := b9) (s := 38) (by omega) (by omega) (by decide)).addL (c := c9) (s := 128) (by omega) (by omega) (by decide)).addL (c := d9) (s := 228) (by omega) (by omega) (by decide)).addL (c := m9) (s := 6) (by omega) (by omega) (by decide)).addL (c := u9) (s := 7) (by omega) (by omega) (by decide)).addL (c := v9) (s := 8) (by omega) (by omega) (by decide))
  have n9 : v9 + 1 ≤ hz h9 := by omega
  generalize kSe K8 (a9 + 1) b9 c9 d9 m9 u9 v9 = K9 at *
  have x9 : x + 1 < hz h9 := Nat.lt_of_lt_of_le x8 g9.1
  refine wmk (Wm := Wm) (L' := [some (.inr (.inr (7, x + 1))), none]) (S' := []) (h' := h9) (cu' := 31) (su' := 311) ?_ rfl rfl e9.symm rfl rfl
  clear e9
  refine go (cut1 124) 60 113 _ _ _ _ _ ?_
  refine And.intro ⟨by decide, by decide⟩ (fun a10 ha10 => ?_)
  have ha10 : hz h9 ≤ a10 := ha10
  obtain ⟨a10, rfl⟩ : ∃ t, a10 = t + 1 := ⟨a10 - 1, by omega⟩
  refine And.intro ⟨by decide, by decide⟩ ?_
  refine c_askInit (fun y10 b10 hN10 => ?_)
  obtain ⟨h10, e10⟩ : ∃ h10 : hp, h10 = wfR y10 613 (x + 1) (a10 + 1) := ⟨_, rfl⟩
  obtain ⟨E10, B10, ⟨R10, S10⟩, o1, o2⟩ := new_ask (K := K9) (f := 613) ha10 (Nat.succ_ne_zero _) x9 hN10
  have zy10 : hz h10 = hz y10 := by rw [e10]; rfl
  obtain ⟨g10, f10, z10⟩ := step_fld (A := noA) x9 z9 E10 B10 h10 e10
  have r10 : AK h10 (kAs K9 (a10 + 1) b10) (a10 + 1) := by rw [e10]; exact R10
  have s10 : hfI h10 1 (a10 + 1) = 0 := by rw [e10]; exact S10
  have k10 : KK (b10 + 1) (kAs K9 (a10 + 1) b10) (fun u => u ∈ _) := ((k9.addL (c := a10 + 1) (s := 3) (by omega) (by omega) (by decide)).addL (c := b10) (s := 5) (by omega) (by omega) (by decide))
  have n10 : b10 + 1 ≤ hz h10 := by omega
  generalize kAs K9 (a10 + 1) b10 = K10 at *
  have x10 : x + 1 < hz h10 := Nat.lt_of_lt_of_le x9 g10.1
  refine wmk (Wm := Wm) (L' := [some (.inr (.inr (7, x + 1))), none]) (S' := []) (h' := h10) (cu' := 33) (su' := 333) ?_ rfl rfl e10.symm rfl rfl
  clear e10
  have w600 : hfR h10 600 (x + 1) = a1 := by rw [f10.1 600 (by decide), f9.1 600 (by decide), f8.1 600 (by decide), f7.1 600 (by decide), f6.1 600 (by decide), f5.1 600 (by decide), f4.1 600 (by decide), f3.1 600 (by decide), f2.1 600 (by decide)]; exact f1.2
  have w601 : hfR h10 601 (x + 1) = a2 + 1 := by rw [f10.1 601 (by decide), f9.1 601 (by decide), f8.1 601 (by decide), f7.1 601 (by decide), f6.1 601 (by decide), f5.1 601 (by decide), f4.1 601 (by decide), f3.1 601 (by decide)]; exact f2.2
  have w604 : hfR h10 604 (x + 1) = a3 + 1 := by rw [f10.1 604 (by decide), f9.1 604 (by decide), f8.1 604 (by decide), f7.1 604 (by decide), f6.1 604 (by decide), f5.1 604 (by decide), f4.1 604 (by decide)]; exact f3.2
  have w605 : hfR h10 605 (x + 1) = a4 + 1 := by rw [f10.1 605 (by decide), f9.1 605 (by decide), f8.1 605 (by decide), f7.1 605 (by decide), f6.1 605 (by decide), f5.1 605 (by decide)]; exact f4.2
  have w606 : hfR h10 606 (x + 1) = a5 := by rw [f10.1 606 (by decide), f9.1 606 (by decide), f8.1 606 (by decide), f7.1 606 (by decide), f6.1 606 (by decide)]; exact f5.2
  have w609 : hfR h10 609 (x + 1) = a6 := by rw [f10.1 609 (by decide), f9.1 609 (by decide), f8.1 609 (by decide), f7.1 609 (by decide)]; exact f6.2
  have w610 : hfR h10 610 (x + 1) = a7 := by rw [f10.1 610 (by decide), f9.1 610 (by decide), f8.1 610 (by decide)]; exact f7.2
  have w611 : hfR h10 611 (x + 1) = a8 + 1 := by rw [f10.1 611 (by decide), f9.1 611 (by decide)]; exact f8.2
  have w612 : hfR h10 612 (x + 1) = a9 + 1 := by rw [f10.1 612 (by decide)]; exact f9.2
  have w613 : hfR h10 613 (x + 1) = a10 + 1 := by exact f10.2
  have G10 : GX h10 K10 h10 K10 (x + 1) noA := GX.rf _ _ _ _
  have G9 : GX h9 K9 h10 K10 (x + 1) noA := g10.tr G10
  have G8 : GX h8 K8 h10 K10 (x + 1) noA := g9.tr G9
  have G7 : GX h7 K7 h10 K10 (x + 1) noA := g8.tr G8
  have G6 : GX h6 K6 h10 K10 (x + 1) noA := g7.tr G7
  have G5 : GX h5 K5 h10 K10 (x + 1) noA := g6.tr G6
  have G4 : GX h4 K4 h10 K10 (x + 1) noA := g5.tr G5
  have G3 : GX h3 K3 h10 K10 (x + 1) noA := g4.tr G4
  have G2 : GX h2 K2 h10 K10 (x + 1) noA := g3.tr G3
  have G1 : GX h1 K1 h10 K10 (x + 1) noA := g2.tr G2
  have G0 : GX h K0 h10 K10 (x + 1) noA := g1.tr G1
  have v1 : K1 (x + 1) = 1 := (g1.2.1 _ x0).trans q0
  have v2 : K2 (x + 1) = 1 := (g2.2.1 _ x1).trans v1
  have v3 : K3 (x + 1) = 1 := (g3.2.1 _ x2).trans v2
  have v4 : K4 (x + 1) = 1 := (g4.2.1 _ x3).trans v3
  have v5 : K5 (x + 1) = 1 := (g5.2.1 _ x4).trans v4
  have v6 : K6 (x + 1) = 1 := (g6.2.1 _ x5).trans v5
  have v7 : K7 (x + 1) = 1 := (g7.2.1 _ x6).trans v6
  have v8 : K8 (x + 1) = 1 := (g8.2.1 _ x7).trans v7
  have v9 : K9 (x + 1) = 1 := (g9.2.1 _ x8).trans v8
  have v10 : K10 (x + 1) = 1 := (g10.2.1 _ x9).trans v9
  have kz1 : KZ h1 K1 := k1.z n1
  have kz2 : KZ h2 K2 := k2.z n2
  have kz3 : KZ h3 K3 := k3.z n3
  have kz4 : KZ h4 K4 := k4.z n4
  have kz5 : KZ h5 K5 := k5.z n5
  have kz6 : KZ h6 K6 := k6.z n6
  have kz7 : KZ h7 K7 := k7.z n7
  have kz8 : KZ h8 K8 := k8.z n8
  have kz9 : KZ h9 K9 := k9.z n9
  have kz10 : KZ h10 K10 := k10.z n10
  have rd := r2.gx kz2 v2 G2
  have ak := r10.gx kz10 v10 G10
  have PH : PH1 h10 K10 (x + 1) := by
    unfold PH1
    rw [w600, w601, w604, w605, w606, w609, w610, w611, w612, w613]
    exact ⟨⟨k10.1, v10, kz10, z10⟩, ⟨r3.gx kz3 v3 G3, s3.gx r3 kz3 v3 G3⟩, ⟨r4.gx kz4 v4 G4, s4.gx r4 kz4 v4 G4⟩, ⟨rd.1, rd.2.2.trans s2.1, (rd.2.1 202).trans s2.2⟩, r5.gx (by omega) (by omega) kz5 v5 G5, r6.gx (by omega) (by omega) kz6 v6 G6, r7.gx (by omega) (by omega) kz7 v7 G7, r8.gx kz8 v8 G8, r9.gx kz9 v9 G9, ⟨ak.1, (ak.2 1).trans s10⟩, r1.gx (by omega) (by omega) kz1 v1 G1⟩
  have le600 : hz h ≤ a1 := by omega
  have le606 : hz h ≤ a5 := by have := g1.1; have := g2.1; have := g3.1; have := g4.1; omega
  have le609 : hz h ≤ a6 := by have := g1.1; have := g2.1; have := g3.1; have := g4.1; have := g5.1; omega
  have le610 : hz h ≤ a7 := by have := g1.1; have := g2.1; have := g3.1; have := g4.1; have := g5.1; have := g6.1; omega
  have I0 : IV h K0 (x + 1) (US 0 0 0 0) 0 0 0 0 h10 K10 := by
    refine ⟨G0.mono (fun z q => absurd q id), k10.mono n10 (fun u hu => ?_), PH, ?_, fun j hj => absurd hj (Nat.not_lt_zero j), fun j hj => absurd hj (Nat.not_lt_zero j), fun j hj => absurd hj (Nat.not_lt_zero j), fun j hj => absurd hj (Nat.not_lt_zero j)⟩
    · unfold US
      simp only [List.mem_cons, List.not_mem_nil, or_false] at hu
      omega
    · rintro f (rfl | rfl | rfl | rfl)
      · rw [w600]; exact le600
      · rw [w606]; exact le606
      · rw [w609]; exact le609
      · rw [w610]; exact le610
  clear g1 g2 g3 g4 g5 g6 g7 g8 g9 g10 G0 G1 G2 G3 G4 G5 G6 G7 G8 G9 G10 k1 k2 k3 k4 k5 k6 k7 k8 k9 k10
  -- the rows
  refine go (cut1 126) 20 124 _ _ _ _ _ ?_
  refine upto (n := 8) (P := fun i => ∀ hc Kc, IV h K0 (x + 1) (US i 0 0 0) i 0 0 0 hc Kc → Wm 126 [some (.inr (.inr (7, x + 1))), some (.inl (nI i))] [] hc (33 + 2 * i) (333 + 43 * i)) (fun i hi ih hc Kc hI => ?_) 0 (Nat.zero_le _) h10 K10 I0
  refine go (cut2 126 151) 60 126 _ _ _ _ _ ?_
  refine icg rfl (show (8 : Int32) = nI 8 from rfl) (by omega) (by omega) (fun c => ?_) (fun c => ?_)
  rotate_left
  · have ih := ih c
    have b1 := hI.2.2.1.2.2.2.2.2.2.2.2.2.2
    refine And.intro ⟨by omega, by omega⟩ (fun s hs => ?_)
    have hs : hz hc ≤ s := hs
    obtain ⟨s, rfl⟩ : ∃ t, s = t + 1 := ⟨s - 1, by have := hI.1.1; omega⟩
    refine And.intro ⟨show 33 + 2 * i + 1 + 1 ≤ 139 by omega, show 333 + 43 * i + 3 + 40 ≤ 1177 by omega⟩ ?_
    refine c_rowInit (fun hy a hN => ?_)
    obtain ⟨hJ, eA⟩ := hI.row hx c hs (Nat.succ_ne_zero _) hN
    refine nz b1.1 (And.intro ?_ ?_)
    · show vp_in (nI i) (haL hy (hfR hc 600 (x + 1)))
      rw [eA]; exact vp_in_nI c (by omega)
    have e := ih _ _ hJ
    rw [← nI_1] at e
    refine wmk (Wm := Wm) e rfl rfl ?_ (show 33 + 2 * i + 1 + 1 = 33 + 2 * (i + 1) by omega) (show 333 + 43 * i + 3 + 40 = 333 + 43 * (i + 1) by omega)
    show waR hy (hfR hc 600 (x + 1)) (va_up (haR hy (hfR hc 600 (x + 1))) (nI i).toNatClampNeg (s + 1)) = _
    rw [nI_clamp (by omega)]
  have e : i = 8 := by omega
  subst e
  clear ih
  -- the States ahead
  refine go (cut1 153) 20 151 _ _ _ _ _ ?_
  refine upto (n := 24) (P := fun i => ∀ hc Kc, IV h K0 (x + 1) (US 8 i 0 0) 8 i 0 0 hc Kc → Wm 153 [some (.inr (.inr (7, x + 1))), some (.inl (nI i))] [] hc (49 + 3 * i) (677 + 16 * i)) (fun i hi ih hc Kc hI => ?_) 0 (Nat.zero_le _) hc Kc hI
  refine go (cut2 153 178) 60 153 _ _ _ _ _ ?_
  refine icg rfl (show (24 : Int32) = nI 24 from rfl) (by omega) (by omega) (fun c => ?_) (fun c => ?_)
  rotate_left
  · have ih := ih c
    have b1 := hI.2.2.1.2.2.2.2.1
    refine And.intro ⟨by omega, by omega⟩ (fun s hs => ?_)
    have hs : hz hc ≤ s := hs
    obtain ⟨s, rfl⟩ : ∃ t, s = t + 1 := ⟨s - 1, by have := hI.1.1; omega⟩
    refine And.intro ⟨show 49 + 3 * i + 1 + 2 ≤ 139 by omega, show 677 + 16 * i + 4 + 12 ≤ 1177 by omega⟩ ?_
    refine c_stateInit (fun hy a b hN => ?_)
    obtain ⟨hJ, eA⟩ := hI.ahd hx c hs (Nat.succ_ne_zero _) hN
    refine nz b1.1 (And.intro ?_ ?_)
    · show vp_in (nI i) (haL hy (hfR hc 606 (x + 1)))
      rw [eA]; exact vp_in_nI c (by omega)
    have e := ih _ _ hJ
    rw [← nI_1] at e
    refine wmk (Wm := Wm) e rfl rfl ?_ (show 49 + 3 * i + 1 + 2 = 49 + 3 * (i + 1) by omega) (show 677 + 16 * i + 4 + 12 = 677 + 16 * (i + 1) by omega)
    show waR hy (hfR hc 606 (x + 1)) (va_up (haR hy (hfR hc 606 (x + 1))) (nI i).toNatClampNeg (s + 1)) = _
    rw [nI_clamp (by omega)]
  have e : i = 24 := by omega
  subst e
  clear ih
  -- the images
  refine go (cut1 180) 20 178 _ _ _ _ _ ?_
  refine upto (n := 2) (P := fun i => ∀ hc Kc, IV h K0 (x + 1) (US 8 24 i i) 8 24 i i hc Kc → Wm 180 [some (.inr (.inr (7, x + 1))), some (.inl (nI i))] [] hc (121 + 9 * i) (1061 + 58 * i)) (fun i hi ih hc Kc hI => ?_) 0 (Nat.zero_le _) hc Kc hI
  refine go (cut2 180 198) 60 180 _ _ _ _ _ ?_
  refine icg rfl (show (2 : Int32) = nI 2 from rfl) (by omega) (by omega) (fun c => ?_) (fun c => ?_)
  · have e : i = 2 := by omega
    subst e
    exact hk hc Kc (hI.ini q5)
  · have ih := ih c
    have b1 := hI.2.2.1.2.2.2.2.2.1
    refine And.intro ⟨by omega, by omega⟩ (fun s hs => ?_)
    have hs : hz hc ≤ s := hs
    obtain ⟨s, rfl⟩ : ∃ t, s = t + 1 := ⟨s - 1, by have := hI.1.1; omega⟩
    refine And.intro ⟨show 121 + 9 * i + 1 + 5 ≤ 139 by omega, show 1061 + 58 * i + 10 + 32 ≤ 1177 by omega⟩ ?_
    refine c_planInit (fun hy a b c' e g hN => ?_)
    obtain ⟨hJ, eA⟩ := hI.pla hx c hs (Nat.succ_ne_zero _) hN
    refine nz b1.1 (And.intro ?_ ?_)
    · show vp_in (nI i) (haL hy (hfR hc 609 (x + 1)))
      rw [eA]; exact vp_in_nI c (by omega)
    refine wmk (Wm := Wm) (L' := [some (.inr (.inr (7, x + 1))), some (.inl (nI i))]) (S' := []) (h' := waR hy (hfR hc 609 (x + 1)) (va_up (haR hy (hfR hc 609 (x + 1))) i (s + 1))) (cu' := 121 + 9 * i + 1 + 5) (su' := 1061 + 58 * i + 10 + 32) ?_ rfl rfl ?_ rfl rfl
    rotate_left
    · show waR hy (hfR hc 609 (x + 1)) (va_up (haR hy (hfR hc 609 (x + 1))) (nI i).toNatClampNeg (s + 1)) = _
      rw [nI_clamp (by omega)]
    generalize waR hy (hfR hc 609 (x + 1)) (va_up (haR hy (hfR hc 609 (x + 1))) i (s + 1)) = hd at *
    generalize kPl Kc (s + 1) a b c' e g (1 + i) = Kd at *
    have b1 := hJ.2.2.1.2.2.2.2.2.2.1
    refine go (cut1 180) 60 198 _ _ _ _ _ ?_
    refine And.intro ⟨show 121 + 9 * i + 1 + 5 + 1 ≤ 139 by omega, show 1061 + 58 * i + 10 + 32 + 4 ≤ 1177 by omega⟩ (fun s' hs' => ?_)
    have hs' : hz hd ≤ s' := hs'
    obtain ⟨s', rfl⟩ : ∃ t, s' = t + 1 := ⟨s' - 1, by have := hJ.1.1; omega⟩
    refine And.intro ⟨show 121 + 9 * i + 1 + 5 + 1 + 2 ≤ 139 by omega, show 1061 + 58 * i + 10 + 32 + 4 + 12 ≤ 1177 by omega⟩ ?_
    refine c_stateInit (fun hy' a' b' hN' => ?_)
    obtain ⟨hJ', eA'⟩ := hJ.ims hx c hs' (Nat.succ_ne_zero _) hN'
    refine nz b1.1 (And.intro ?_ ?_)
    · show vp_in (nI i) (haL hy' (hfR hd 610 (x + 1)))
      rw [eA']; exact vp_in_nI c (by omega)
    have e := ih _ _ hJ'
    rw [← nI_1] at e
    refine wmk (Wm := Wm) e rfl rfl ?_ (show 121 + 9 * i + 1 + 5 + 1 + 2 = 121 + 9 * (i + 1) by omega) (show 1061 + 58 * i + 10 + 32 + 4 + 12 = 1061 + 58 * (i + 1) by omega)
    show waR hy' (hfR hd 610 (x + 1)) (va_up (haR hy' (hfR hd 610 (x + 1))) (nI i).toNatClampNeg (s' + 1)) = _
    rw [nI_clamp (by omega)]
