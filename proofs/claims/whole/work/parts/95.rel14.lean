/-! ===== pairs: castle ===== -/
section Q18
variable {H : hp} {K : Nat → Nat} {V W : Nat → Nat → Int32} {y x n cm at' am by' tm t : Nat} {I : Nat → Int32} {A : Nat → Nat → Int32} {rs : Nat → Option Nat}
theorem RD.rp3 {P : Nat → Int32} {B : Nat → Nat → Int32} (hR : RD H K V W y x I A n cm at' am by' tm rs t) : RD (RP H (hfR H 200 (hfR H 601 y)) P B) K V W y x I A n cm at' am by' tm rs t := by
  obtain ⟨h1, h2, h3, h4, h5, h6, h7, h8⟩ := hR
  obtain ⟨g1, g2, g7, g9, gS, gI⟩ := h1
  have hp3 := g1.rdr.2.2
  have hp0 := g1.pl0
  refine ⟨⟨g1, g2.rp hp3, g7.rpo hp3 hp0 (by decide), g9, gS.rpo hp3 hp0 (by decide), fun k hk => (gI k hk).rpo hp3 (g1.ips k hk) (by omega)⟩, h2, h3, h4.rpo hp3 hp0 (by decide), h5, h6, fun k hk => ?_, h8⟩
  have hpk := g1.ips k hk
  show (A 731 k = 0 → pI (RP H (hfR H 200 (hfR H 601 y)) P B) (ip H y k) 102 = 0) ∧ (A 731 k ≠ 0 → IMk (RP H (hfR H 200 (hfR H 601 y)) P B) V W A (ip H y k) k (30 * t))
  rw [rp_pI hp3 hpk (by omega)]
  refine ⟨(h7 k hk).1, fun hi => ?_⟩
  obtain ⟨n', cm', x1, x2, x3, x4, x5⟩ := (h7 k hk).2 hi
  exact ⟨n', cm', x1.rpo hp3 hpk (by omega), x2, x3, x4.rpo hp3 hpk (by omega), x5⟩
set_option maxRecDepth 20000 in
theorem b_castle (hmv : MVal H (x + 1) I A) (hR : RD H K V W (y + 1) (x + 1) I A n cm at' am by' tm rs t) : Both 0 0 mX6_castle mX7_castle [] (y + 1) (x + 1) (CU H K V W) (INV (y + 1) (x + 1) (t + 1)) := by
  intro kk1 hk1
  have hb := hR.2.1.2.2.2.2.1
  obtain ⟨⟨m1, m2, m3, m4, m5, m6⟩, m7, m8, m8b, m9⟩ := hR.2.2.2.2.2.1
  refine c_castle hR.cs (m3.trans hb.1) hb.2 (fun f r P B V2 ep v1 v2 => ?_) (fun v w S P B P' B' V2 W2 ep hC hV hW => ?_)
  · rw [cla_par, m7] at ep
    have hR2 : RD (RP H (hfR H 200 (hfR H 601 (y + 1))) P B) K V W (y + 1) (x + 1) I A n cm at' am by' tm rs (t + 1) := hR.t1.rp3
    have hm2 : MVal (RP H (hfR H 200 (hfR H 601 (y + 1))) P B) (x + 1) I A := hmv.rp hR.sm hR.cs.rdr.2.2
    generalize RP H (hfR H 200 (hfR H 601 (y + 1))) P B = H2 at *
    refine gen hm2 hR2.sm hk1 (fun kk2 hk2 => m_castle (h := CU H2 K V2 W) hR2.sm.1 hb.1 hb.2 (fun f' q I' A' ep' hI hA => ?_) (fun v w S I' A' ep' _ _ _ _ _ => by rw [ep] at ep'; cases ep'))
    rw [ep] at ep'
    cases ep'
    have ei : ∀ k, (k < 717 ∨ 721 < k) → k ≠ 704 → k ≠ 706 → I' k = I k := fun k h1 h2 h3 => by
      rw [hI k h1]
      unfold upd
      rw [if_neg h3, if_neg h2]
    have i4 : I' 704 = 0 := by rw [hI 704 (by decide)]; rfl
    have i6 : I' 706 = f := by rw [hI 706 (by decide)]; rfl
    refine hk2 I' A' (RD.misc (V2 := V2) (W2 := W) (I2 := I') (A2 := A') (by2 := 0) (tm2 := tm) (rs2 := rs) hR2 hR2.1 (fun s hs => ⟨?_, ?_⟩) (fun s hs => ⟨rfl, rfl⟩) (fun k hk => ei k (by omega) (by omega) (by omega)) (fun f hf => hA f (by omega)) ⟨i4, by omega⟩ ?_ ?_ ⟨⟨?_, ?_, ?_, ?_, ?_, ?_⟩, ?_, fun j hj => ?_, fun r hr => ?_, fun r hr s hs => ?_⟩).toX
    · rw [v1 _ _ (by omega), up2_nf (by decide)]
    · rw [v1 _ _ (by omega), up2_nf (by decide)]
    · rw [ei 737 (by decide) (by decide) (by decide)]; exact hR.2.1.2.2.2.2.2
    · unfold RIn; rw [hA 701 (by decide)]; exact hR.2.2.1
    · rw [v1 _ _ (by decide), up2_nf (by decide), ei 728 (by decide) (by decide) (by decide)]; exact m1
    · rw [v1 _ _ (by decide), up2_nf (by decide), ei 727 (by decide) (by decide) (by decide)]; exact m2
    · rw [v2, i4]
    · rw [v1 _ _ (by decide), up2_eq, i6]
    · rw [v1 _ _ (by decide), up2_nf (by decide), ei 700 (by decide) (by decide) (by decide)]; exact m5
    · rw [v1 _ _ (by decide), up2_nf (by decide), ei 737 (by decide) (by decide) (by decide)]; exact m6
    · rw [hA 705 (by decide)]; exact m7
    · rw [hA 738 (by decide)]; exact m8 j hj
    · rw [v1 _ _ (by omega), up2_nf (by decide), hA 701 (by decide)]; exact m8b r hr
    · rw [v1 _ _ (by omega), up2_nf (by decide), hA 702 (by decide), hA 703 (by decide)]; exact m9 r hr s hs
  · rw [cla_par, m7] at ep
    obtain ⟨⟨pa, pb, pc, pd, pe⟩, pon, pki, ⟨n8, r12, c4⟩, j9⟩ := hC
    obtain ⟨v1, v9, v2, v3⟩ := hV
    obtain ⟨w1, w2, w3⟩ := hW
    have hR2 : RD (RP H (hfR H 200 (hfR H 601 (y + 1))) P B) K V W (y + 1) (x + 1) I A n cm at' am by' tm rs (t + 1) := hR.t1.rp3
    have hm2 : MVal (RP H (hfR H 200 (hfR H 601 (y + 1))) P B) (x + 1) I A := hmv.rp hR.sm hR.cs.rdr.2.2
    have e604 : hfR H 604 (y + 1) = hfR (RP H (hfR H 200 (hfR H 601 (y + 1))) P B) 604 (y + 1) := rfl
    rw [e604]
    clear e604
    generalize RP H (hfR H 200 (hfR H 601 (y + 1))) P B = H1 at *
    have hp0 := hR2.cs.pl0
    have hm3 : MVal (RP H1 (hfR H1 604 (y + 1)) P' B') (x + 1) I A := hm2.rp hR2.sm hp0
    have hSH : SHP (RP H1 (hfR H1 604 (y + 1)) P' B') K (y + 1) (x + 1) S.2.1 S.2.2.2.1 := by
      obtain ⟨g1, g2, g7, g9, gS, gI⟩ := hR2.1
      refine ⟨g1, g2.rp hp0, ⟨⟨(rq_pI 102).trans pc, n8⟩, ⟨(rq_pI 104).trans pe, c4⟩⟩, g9, SET.rpn hp0 (fun m em m8 j hj => ?_), fun k hk => ?_⟩
      · obtain rfl : m = S.2.1 := nIj (by omega) (by omega) (em.symm.trans pc)
        rw [(pon j hj).2]
        exact congrFun (lyF_cg _ (fun i hi => (pon i (by omega)).1.symm)) j
      · show SET (RP H1 (hfR H1 604 (y + 1)) P' B') (ip H1 (y + 1) k)
        exact (gI k hk).rpo hp0 (g1.ips k hk) (by omega)
    have e5 : hfR (RP H1 (hfR H1 604 (y + 1)) P' B') 604 (y + 1) = hfR H1 604 (y + 1) := rfl
    have qi : ∀ f, pI (RP H1 (hfR H1 604 (y + 1)) P' B') (hfR H1 604 (y + 1)) f = P' f := fun f => rq_pI f
    have qa : ∀ f, f59 f → pA (RP H1 (hfR H1 604 (y + 1)) P' B') (hfR H1 604 (y + 1)) f = B' f := fun f hf => rq_pA hp0 hf
    refine gen hm3 hSH.2.2.2.1 hk1 (fun kk2 hk2 => m_castle (h := CU (RP H1 (hfR H1 604 (y + 1)) P' B') K V2 W2) hSH.2.2.2.1.1 hb.1 hb.2 (fun f' q I' A' ep' _ _ => by rw [ep] at ep'; cases ep') (fun v' w' S' I' A' ep' hI hA _ _ _ => ?_))
    rw [ep] at ep'
    cases ep'
    obtain ⟨⟨r, r1, r9, er⟩, ⟨u, u1, eu⟩, pso, nb0⟩ := par_ok ep
    have cs2 := hR2.cs
    obtain ⟨-, mi, ri, -, ⟨-, s1⟩, -, h7, -, -, -⟩ := hR2
    obtain ⟨hA1, hA2, hA3, hA4⟩ := hA
    have eA : ∀ f, (f < 712 ∨ 715 < f) → (f < 722 ∨ 726 < f) → A' f = A f := hA1
    have qS : ∀ s a, s < 27 → s ≠ 0 → eqS V W s a → eqS V2 W2 s a := fun s a hs hne h => h.congr (w1 _ (by omega) (by omega)) (w1 _ (by omega) (by omega)) (by rw [v1 _ _ (by omega) (by omega), up2_nf (by decide)]) (by rw [v1 _ _ (by omega) (by omega), up2_nf (by decide)]) (fun _ _ => rfl)
    have iv : ∀ k, (k < 717 ∨ 721 < k) → I' k = caI I v w S k := hI
    have i28 : I' 728 = I 728 := iv 728 (by decide)
    have i27 : I' 727 = 0 := iv 727 (by decide)
    have i00 : I' 700 = I 700 := iv 700 (by decide)
    have i06 : I' 706 = I 706 := iv 706 (by decide)
    have i37 : I' 737 = I 737 := iv 737 (by decide)
    have i04 : I' 704 = 0 := iv 704 (by decide)
    have i07 : I' 707 = nI S.2.1 := iv 707 (by decide)
    have i08 : I' 708 = nI S.2.2.1 := iv 708 (by decide)
    have i09 : I' 709 = nI S.2.2.2.1 := iv 709 (by decide)
    have i10 : I' 710 = v := iv 710 (by decide)
    have i11 : I' 711 = w := iv 711 (by decide)
    refine hk2 I' A' ⟨S.2.1, S.2.2.2.1, at', 0, 0, tm, rs, hSH, ⟨⟨i07, n8⟩, ⟨i09, c4⟩, ⟨i28.trans mi.2.2.1.1, mi.2.2.1.2⟩, ⟨i27, by omega⟩, ⟨i04, by omega⟩, ⟨i37.trans mi.2.2.2.2.2.1, mi.2.2.2.2.2.2⟩⟩, ?_, ⟨⟨?_, ?_, ?_⟩, fun j hj => ?_, fun c hc => ⟨?_, ?_⟩⟩, ⟨⟨fun j hj => ?_, fun c hc => ?_, ?_, ?_⟩, fun i hi => ?_⟩, ⟨⟨?_, ?_, ?_, ?_, ?_, ?_⟩, ?_, fun j hj => ?_, fun r hr => ?_, fun r hr s hs => ?_⟩, fun k hk => ?_, ⟨fun j hj => ?_, fun c hc => ?_, ?_⟩, fun k hk => absurd hk (Nat.not_lt_zero k), ⟨fun _ => ⟨r, r1, r9, i10.trans er⟩, ⟨u, u1, i11.trans eu⟩, fun c hc => ⟨nb0, ?_⟩⟩⟩
    · unfold RIn; rw [eA 701 (by decide) (by decide)]; exact ri
    · rw [e5, qi, i08]; exact pd
    · rw [e5, qi, i10]; exact pa
    · rw [e5, qi, i11]; exact pb
    · rw [e5, qa 106 (by decide), (pon j hj).1, hA3 j hj]
      by_cases c : j < S.2.1
      · rw [if_pos c]
      · rw [if_neg c]; exact (j9 j (by omega)).2
    · rw [e5, qa 108 (by decide), (pki c hc).1]; exact (hA4 c hc).2.symm
    · rw [e5, qa 109 (by decide), (pki c hc).2]; exact (hA4 c hc).1.symm
    · show W2 100 j = _
      rw [w2 j hj, hA2 j (by omega)]
      by_cases c : j < S.2.1
      · rw [if_pos c]
      · rw [if_neg c]; exact (j9 j (by omega)).1
    · show W2 200 c = _
      rw [w3 c hc, hA2 (8 + c) (by omega), if_neg (by omega)]
    · show V2 502 10 = _
      rw [v2, hA2 12 (by omega), if_neg (by omega)]
    · show V2 503 10 = _
      rw [v3, hA2 13 (by omega), if_neg (by omega)]
    · rw [eA 729 (by decide) (by decide)]; exact qS (1 + i) _ (by omega) (by omega) (s1 i hi)
    · rw [v1 _ _ (by decide) (by decide), up2_nf (by decide), i28]; exact m1
    · rw [v1 _ _ (by decide) (by decide), up2_eq, i27]
    · rw [v9, i04]
    · rw [v1 _ _ (by decide) (by decide), up2_nf (by decide), i06]; exact m4
    · rw [v1 _ _ (by decide) (by decide), up2_nf (by decide), i00]; exact m5
    · rw [v1 _ _ (by decide) (by decide), up2_nf (by decide), i37]; exact m6
    · rw [w1 _ (by decide) (by decide), eA 705 (by decide) (by decide)]; exact m7
    · rw [w1 _ (by decide) (by decide), eA 738 (by decide) (by decide)]; exact m8 j hj
    · rw [v1 _ _ (by omega) (by omega), up2_nf (by decide), eA 701 (by decide) (by decide)]; exact m8b r hr
    · rw [v1 _ _ (by omega) (by omega), up2_nf (by decide), w1 _ (by omega) (by omega), eA 702 (by decide) (by decide), eA 703 (by decide) (by decide)]; exact m9 r hr s hs
    · have hpk := cs2.ips k hk
      show (A' 731 k = 0 → pI (RP H1 (hfR H1 604 (y + 1)) P' B') (ip H1 (y + 1) k) 102 = 0) ∧ (A' 731 k ≠ 0 → IMk (RP H1 (hfR H1 604 (y + 1)) P' B') V2 W2 A' (ip H1 (y + 1) k) k (30 * (t + 1)))
      rw [eA 731 (by decide) (by decide), rp_pI hp0 hpk (by omega)]
      refine ⟨(h7 k hk).1, fun hi => ?_⟩
      obtain ⟨n2, cm2, y1, y2, y3, y4, y5, y6, y7⟩ := (h7 k hk).2 hi
      unfold IMk
      rw [eA 732 (by decide) (by decide), eA 733 (by decide) (by decide), eA 734 (by decide) (by decide), eA 735 (by decide) (by decide), eA 736 (by decide) (by decide)]
      exact ⟨n2, cm2, y1.rpo hp0 hpk (by omega), y2, y3, y4.rpo hp0 hpk (by omega), qS (25 + k) _ (by omega) (by omega) y5, y6, y7⟩
    · rw [hA2 j (by omega)]
      by_cases c : j < S.2.1
      · rw [if_pos c]
        obtain ⟨q, q1, q2⟩ := pso.1 j c
        exact ⟨q, q1, q2, fun z => by omega⟩
      · rw [if_neg c]; exact ⟨0, by omega, rfl, fun _ => rfl⟩
    · rw [hA2 (8 + c) (by omega), if_neg (by omega)]; exact ⟨0, by omega, rfl, fun _ => rfl⟩
    · rw [hA2 13 (by omega), if_neg (by omega)]; exact ⟨0, by omega, rfl⟩
    · rw [(hA4 c hc).1, (hA4 c hc).2]
      exact pso.2 c hc
end Q18
