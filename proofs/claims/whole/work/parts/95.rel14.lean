/-! ===== pairs: castle ===== -/
section Q18
variable {H : hp} {K : Nat → Nat} {V W : Nat → Nat → Int32} {y x n cm at' am by' tm t : Nat} {I : Nat → Int32} {A : Nat → Nat → Int32} {rs : Nat → Option Nat}
theorem cu_pI {p f : Nat} (hp : PPm H K p) : pI (CU H K V W) p f = pI H p f := CU_fIo hp.1.1.1.2
theorem cu_pA {p f : Nat} (hp : PPm H K p) (hf : f = 105 ∨ f = 106 ∨ f = 107 ∨ f = 108) : pA (CU H K V W) p f = pA H p f := by
  obtain ⟨⟨⟨-, ⟨-, b2, -⟩, ⟨-, c2, -⟩, ⟨-, d2, -⟩, ⟨-, f2, -⟩⟩, -⟩, -⟩ := hp
  rcases hf with rfl | rfl | rfl | rfl
  · exact CU_aIo b2
  · exact CU_aIo c2
  · exact CU_aIo d2
  · exact CU_aIo f2
theorem SHP.cu (h : SHP H K y x rs n cm) : SHP (CU H K V W) K y x rs n cm := by
  obtain ⟨h1, h2, h3, h4, h5, h6, h7, h8, h9⟩ := h
  refine ⟨h1, h2, h3, ?_, h5, h6, ?_, h8, h9⟩
  · obtain ⟨⟨⟨a1, a2⟩, ⟨b1, b2⟩, ⟨c1, c2⟩⟩, q⟩ := h4
    refine ⟨⟨⟨a1, fun k hk => ?_⟩, ⟨b1, fun k hk => ?_⟩, ⟨c1, fun k hk => ?_⟩⟩, q⟩
    · show haI (CU H K V W) (hfR H 9001 0) k = _
      rw [CU_aIo a1.2.1]; exact a2 k hk
    · show haI (CU H K V W) (hfR H 9002 0) k = _
      rw [CU_aIo b1.2.1]; exact b2 k hk
    · show haI (CU H K V W) (hfR H 9003 0) k = _
      rw [CU_aIo c1.2.1]; exact c2 k hk
  · show (pI (CU H K V W) (hfR H 605 y) 102 = nI n ∧ n ≤ 8) ∧ (pI (CU H K V W) (hfR H 605 y) 104 = nI cm ∧ cm ≤ 4)
    rw [cu_pI h6, cu_pI h6]
    exact h7
theorem RD.cu (hR : RD H K V W y x I A n cm at' am by' tm rs t) : RD (CU H K V W) K V W y x I A n cm at' am by' tm rs t := by
  have h := hR.1
  have hm := hR.2.2.2.2.2.1
  exact RD.misc2 hR h.cu rfl (fun q hq => ⟨fun f => cu_pI hq, fun f hf => cu_pA hq hf⟩) (fun k hk => rfl) (fun s hs => ⟨rfl, rfl⟩) (fun s hs => ⟨rfl, rfl⟩) (fun k hk => rfl) (fun f hf => rfl) hR.2.1.2.2.2.2.1 hR.2.1.2.2.2.2.2 hR.2.2.1 hm
theorem MVal.cu0 (h : MVal H x I A) (hs : SHm H K x) : MVal (CU H K V W) x I A := by
  refine ⟨fun k => (CU_fIo (by rw [hs.2.1.1]; decide)).trans (h.1 k), fun f hf => ?_⟩
  show haI (CU H K V W) (hfR H f x) = A f
  rw [CU_aIo (by rw [(hs.2.2 f hf).1]; decide)]
  exact h.2 f hf
theorem SHP.wpl {p n2 cm2 : Nat} (h : SHP H K (y + 1) x rs n cm) (hp : PPm (wfR H 605 (y + 1) p) K p) (hn : Pn (wfR H 605 (y + 1) p) p n2 cm2) : SHP (wfR H 605 (y + 1) p) K (y + 1) x rs n2 cm2 := by
  obtain ⟨g1, g2, g3, g4, g5, g6, g7, g8, g9⟩ := h
  have yx : x ≠ y + 1 := fun w => by
    have a1 := g9.2.1.1
    rw [w, g1.y1] at a1
    omega
  have e5 : hfR (wfR H 605 (y + 1) p) 605 (y + 1) = p := wfR_eq
  have bR : ∀ z, z ≠ y + 1 → ∀ f, hfR (wfR H 605 (y + 1) p) f z = hfR H f z := fun z hz' f => up2_nx hz'
  refine ⟨g1.wpl hp.1.1, g2, g3, ⟨g4.1, fun f hf => ?_⟩, g5, ?_, ?_, fun k hk hi => g8 k hk hi, ?_⟩
  · rw [bR 0 (by omega)]; exact g4.2 f hf
  · rw [e5]; exact hp
  · rw [e5]; exact hn
  · obtain ⟨s1, s2, s3⟩ := g9
    have r := bR _ yx
    refine ⟨⟨fun f hf => ?_, fun f hf g hg => ?_⟩, s2, fun f hf => ?_⟩
    · rw [r]; exact s1.1 f hf
    · rw [r, r]; exact s1.2 f hf g hg
    · rw [r]; exact s3 f hf
set_option maxRecDepth 20000 in
theorem b_castle (hmv : MVal H (x + 1) I A) (hR : RD H K V W (y + 1) (x + 1) I A n cm at' am by' tm rs t) : Both 6 38 mX6_castle mX7_castle [] (y + 1) (x + 1) (CU H K V W) (INV (y + 1) (x + 1) (t + 1)) := by
  intro kk1 hk1
  have hb := hR.2.1.2.2.2.2.1
  obtain ⟨⟨m1, m2, m3, m4, m5, m6⟩, m7, m8, m9⟩ := hR.2.2.2.2.2.1
  have hsm := hR.sm
  have hmc := hmv.cu0 (V := V) (W := W) hsm
  have hRc := hR.t1.cu
  refine c_castle hR.cs hR.1.kz hR.1.2.2.2.2.2.1.1.2 hR.1.2.2.1 (m3.trans hb.1) hb.2 (fun f r H2 ep hE => ?_) (fun v w S H2 V2 W2 p ep hC => ?_)
  · rw [cla_par, m7] at ep
    have hR2 := hRc.exH hE
    have hm2 := hmc.ex hRc.sm hE
    refine gen hm2 hR2.sm hk1 (fun kk2 hk2 => m_castle (h := CU H2 K (up2 (up2 V 602 1 0) 603 1 f) W) hR2.sm.1 hb.1 hb.2 (fun f' q I' A' ep' hI hA => ?_) (fun v w S I' A' ep' _ _ _ _ _ => by rw [ep] at ep'; cases ep'))
    rw [ep] at ep'
    cases ep'
    have ei : ∀ k, (k < 717 ∨ 721 < k) → k ≠ 704 → k ≠ 706 → I' k = I k := fun k h1 h2 h3 => by
      rw [hI k h1]
      unfold upd
      rw [if_neg h3, if_neg h2]
    have i4 : I' 704 = 0 := by rw [hI 704 (by decide)]; rfl
    have i6 : I' 706 = f := by rw [hI 706 (by decide)]; rfl
    refine hk2 I' A' (RD.misc (V2 := up2 (up2 V 602 1 0) 603 1 f) (W2 := W) (I2 := I') (A2 := A') (by2 := 0) (tm2 := tm) (rs2 := rs) hR2 hR2.1 (fun s hs => ⟨?_, ?_⟩) (fun s hs => ⟨rfl, rfl⟩) (fun k hk => ei k (by omega) (by omega) (by omega)) (fun f hf => hA f (by omega)) ⟨i4, by omega⟩ ?_ ?_ ⟨⟨?_, ?_, ?_, ?_, ?_, ?_⟩, ?_, fun j hj => ?_, fun r hr s hs => ?_⟩).toX
    · rw [up2_nf (by decide), up2_nf (by decide)]
    · rw [up2_nf (by decide), up2_nf (by decide)]
    · rw [ei 737 (by decide) (by decide) (by decide)]; exact hR.2.1.2.2.2.2.2
    · unfold RIn; rw [hA 701 (by decide)]; exact hR.2.2.1
    · rw [up2_nf (by decide), up2_nf (by decide), ei 728 (by decide) (by decide) (by decide)]; exact m1
    · rw [up2_nf (by decide), up2_nf (by decide), ei 727 (by decide) (by decide) (by decide)]; exact m2
    · rw [up2_nf (by decide), up2_eq, i4]
    · rw [up2_eq, i6]
    · rw [up2_nf (by decide), up2_nf (by decide), ei 700 (by decide) (by decide) (by decide)]; exact m5
    · rw [up2_nf (by decide), up2_nf (by decide), ei 737 (by decide) (by decide) (by decide)]; exact m6
    · rw [hA 705 (by decide)]; exact m7
    · rw [hA 738 (by decide)]; exact m8 j hj
    · rw [up2_nf (by decide), up2_nf (by decide), hA 702 (by decide), hA 703 (by decide)]; exact m9 r hr s hs
  · rw [cla_par, m7] at ep
    obtain ⟨⟨h2, hE, eH2⟩, ⟨hPP, hPZ⟩, ⟨pa, pb, pc, pd, pe⟩, pq, ⟨n8, r12, c4⟩, ⟨v1, v2, v3⟩, ⟨w1, w2, w3⟩, j9, z0, z5, z6, z7, z8⟩ := hC
    have hR2 := hRc.exH hE
    have hm2 := hmc.ex hRc.sm hE
    have k5 : ∀ z, hz H ≤ z → K z ≠ 700 := fun z hz' => by rw [hR.1.2.1 z hz']; decide
    have hPm : PPm H2 K p := ⟨⟨hPP, hPZ⟩, k5 _ z0, k5 _ z5, k5 _ z6, k5 _ z7, k5 _ z8⟩
    have hPn : Pn H2 p S.2.1 S.2.2.2.1 := ⟨⟨pc, n8⟩, ⟨pe, c4⟩⟩
    have hSH : SHP H2 K (y + 1) (x + 1) rs S.2.1 S.2.2.2.1 := by
      rw [eH2] at hPm hPn ⊢
      exact hR2.1.wpl hPm hPn
    have e5 : hfR H2 605 (y + 1) = p := by rw [eH2]; exact wfR_eq
    have hip : ∀ k, ip H2 (y + 1) k = ip h2 (y + 1) k := fun k => by rw [eH2]; rfl
    have yx : x + 1 ≠ y + 1 := fun w => by
      have a1 := hsm.2.1.1
      rw [w, hR.cs.y1] at a1
      omega
    have hm3 : MVal H2 (x + 1) I A := by
      refine ⟨by rw [eH2]; exact hm2.1, fun f hf => ?_⟩
      have : hfR H2 f (x + 1) = hfR h2 f (x + 1) := by rw [eH2]; exact up2_nx yx
      rw [this, eH2]; exact hm2.2 f hf
    refine gen hm3 hSH.2.2.2.2.2.2.2.2 hk1 (fun kk2 hk2 => m_castle (h := CU H2 K V2 W2) hSH.2.2.2.2.2.2.2.2.1 hb.1 hb.2 (fun f' q I' A' ep' _ _ => by rw [ep] at ep'; cases ep') (fun v' w' S' I' A' ep' hI hA _ _ _ => ?_))
    rw [ep] at ep'
    cases ep'
    obtain ⟨⟨r, r1, r9, er⟩, ⟨u, u1, eu⟩, pso, nb0⟩ := par_ok ep
    obtain ⟨-, mi, ri, -, ⟨-, s1⟩, -, h7, -, -, -⟩ := hR2
    obtain ⟨hA1, hA2, hA3, hA4⟩ := hA
    have eA : ∀ f, (f < 712 ∨ 715 < f) → (f < 722 ∨ 726 < f) → A' f = A f := hA1
    have qS : ∀ s a, s < 27 → s ≠ 0 → eqS V W s a → eqS V2 W2 s a := fun s a hs hne h => h.congr (w1 _ (by omega) (by omega)) (w1 _ (by omega) (by omega)) (by rw [v1 _ _ (by omega), up2_nf (by decide), up2_nf (by decide)]) (by rw [v1 _ _ (by omega), up2_nf (by decide), up2_nf (by decide)]) (fun _ _ => rfl)
    have iv : ∀ k, (k < 717 ∨ 721 < k) → I' k = caI I v w S k := hI
    have i28 : I' 728 = I 728 := iv 728 (by decide)
    have i27 : I' 727 = 0 := iv 727 (by decide)
    have i00 : I' 700 = I 700 := iv 700 (by decide)
    have i06 : I' 706 = I 706 := iv 706 (by decide)
    have i37 : I' 737 = I 737 := iv 737 (by decide)
    have i04 : I' 704 = 0 := iv 704 (by decide)
    have i07 : I' 707 = nI S.2.1 := iv 707 (by decide)
    have i08 : I' 708 = nI S.2.2.1 := iv 708 (by decide)
    have i09 : I' 709 = nI S.2.2.2.1 := iv 709 (by decide)
    have i10 : I' 710 = v := iv 710 (by decide)
    have i11 : I' 711 = w := iv 711 (by decide)
    refine hk2 I' A' ⟨S.2.1, S.2.2.2.1, at', 0, 0, tm, rs, hSH, ⟨⟨i07, n8⟩, ⟨i09, c4⟩, ⟨i28.trans mi.2.2.1.1, mi.2.2.1.2⟩, ⟨i27, by omega⟩, ⟨i04, by omega⟩, ⟨i37.trans mi.2.2.2.2.2.1, mi.2.2.2.2.2.2⟩⟩, ?_, ⟨⟨?_, ?_, ?_⟩, fun j hj => ?_, fun c hc => ⟨?_, ?_⟩⟩, ⟨⟨fun j hj => ?_, fun c hc => ?_, ?_, ?_⟩, fun i hi => ?_⟩, ⟨⟨?_, ?_, ?_, ?_, ?_, ?_⟩, ?_, fun j hj => ?_, fun r hr s hs => ?_⟩, fun k hk => ?_, ⟨fun j hj => ?_, fun c hc => ?_, ?_⟩, fun k hk => absurd hk (Nat.not_lt_zero k), ⟨fun _ => ⟨r, r1, r9, i10.trans er⟩, ⟨u, u1, i11.trans eu⟩, fun c hc => ⟨nb0, ?_⟩⟩⟩
    · unfold RIn; rw [eA 701 (by decide) (by decide)]; exact ri
    · rw [e5, i08]; exact pd
    · rw [e5, i10]; exact pa
    · rw [e5, i11]; exact pb
    · rw [e5, (pq j).1, hA3 j hj]
      by_cases c : j < S.2.1
      · rw [if_pos c]
      · rw [if_neg c]; exact (j9 j (by omega)).2
    · rw [e5, (pq c).2.1]; exact (hA4 c hc).2.symm
    · rw [e5, (pq c).2.2]; exact (hA4 c hc).1.symm
    · show W2 100 j = _
      rw [w2 j hj, hA2 j (by omega)]
      by_cases c : j < S.2.1
      · rw [if_pos c]
      · rw [if_neg c]; exact (j9 j (by omega)).1
    · show W2 200 c = _
      rw [w3 c hc, hA2 (8 + c) (by omega), if_neg (by omega)]
    · show V2 502 10 = _
      rw [v2, hA2 12 (by omega), if_neg (by omega)]
    · show V2 503 10 = _
      rw [v3, hA2 13 (by omega), if_neg (by omega)]
    · rw [eA 729 (by decide) (by decide)]; exact qS (1 + i) _ (by omega) (by omega) (s1 i hi)
    · rw [v1 _ _ (by decide), up2_nf (by decide), up2_nf (by decide), i28]; exact m1
    · rw [v1 _ _ (by decide), up2_eq, i27]
    · rw [v1 _ _ (by decide), up2_nf (by decide), up2_eq, i04]
    · rw [v1 _ _ (by decide), up2_nf (by decide), up2_nf (by decide), i06]; exact m4
    · rw [v1 _ _ (by decide), up2_nf (by decide), up2_nf (by decide), i00]; exact m5
    · rw [v1 _ _ (by decide), up2_nf (by decide), up2_nf (by decide), i37]; exact m6
    · rw [w1 _ (by decide) (by decide), eA 705 (by decide) (by decide)]; exact m7
    · rw [w1 _ (by decide) (by decide), eA 738 (by decide) (by decide)]; exact m8 j hj
    · rw [v1 _ _ (by omega), up2_nf (by decide), up2_nf (by decide), w1 _ (by omega) (by omega), eA 702 (by decide) (by decide), eA 703 (by decide) (by decide)]; exact m9 r hr s hs
    · rw [hip, eA 731 (by decide) (by decide)]
      refine ⟨(h7 k hk).1, fun hi => ?_⟩
      obtain ⟨n2, cm2, y1, y2, y3, y4, y5, y6, y7⟩ := (h7 k hk).2 hi
      unfold IMk
      rw [eA 732 (by decide) (by decide), eA 733 (by decide) (by decide), eA 734 (by decide) (by decide), eA 735 (by decide) (by decide), eA 736 (by decide) (by decide)]
      exact ⟨n2, cm2, by rw [eH2]; exact y1, y2, y3, by rw [eH2]; exact y4, qS (25 + k) _ (by omega) (by omega) y5, y6, y7⟩
    · rw [hA2 j (by omega)]
      by_cases c : j < S.2.1
      · rw [if_pos c]
        obtain ⟨q, q1, q2⟩ := pso.1 j c
        exact ⟨q, q1, q2, fun z => by omega⟩
      · rw [if_neg c]; exact ⟨0, by omega, rfl, fun _ => rfl⟩
    · rw [hA2 (8 + c) (by omega), if_neg (by omega)]; exact ⟨0, by omega, rfl, fun _ => rfl⟩
    · rw [hA2 13 (by omega), if_neg (by omega)]; exact ⟨0, by omega, rfl⟩
    · rw [(hA4 c hc).1, (hA4 c hc).2]
      exact pso.2 c hc
end Q18
