/-! ===== pairs: images, who ===== -/
section Q14
variable {H : hp} {K : Nat → Nat} {V W : Nat → Nat → Int32} {y x n cm at' am by' tm t : Nat} {I : Nat → Int32} {A : Nat → Nat → Int32} {rs : Nat → Option Nat}
theorem b_image {ki : Int32} (hmv : MVal H (x + 1) I A) (hR : RD H K V W (y + 1) (x + 1) I A n cm at' am by' tm rs t) : Both 0 0 mX6_image mX7_image [.inl ki] (y + 1) (x + 1) (CU H K V W) (INV (y + 1) (x + 1) (t + 1)) := by
  intro kk1 hk1
  refine c_image hR.cs hR.pn (fun q => ro hmv hR hk1 (fun kk2 h2 => m_image hR.ms hR.mi (fun _ => h2 A (EA.rf A)) (fun z _ => absurd z q) (fun k hk e _ => absurd (by rw [e]; exact inB_nI hk (by omega)) q))) (fun q c => ro hmv hR hk1 (fun kk2 h2 => m_image hR.ms hR.mi (fun z => absurd q z) (fun _ _ => h2 A (EA.rf A)) (fun k _ _ z => absurd c (by omega)))) (fun k P B hk e c hE => ?_)
  have hpk : PQ H K (ip H (y + 1) k) (1 + k) := hR.cs.ips k hk
  have hmv2 : MVal (RP H (ip H (y + 1) k) P B) (x + 1) I A := hmv.rp hR.sm hpk
  have hsm2 : SHm (RP H (ip H (y + 1) k) P B) K (x + 1) := hR.sm
  have gen2 := gen (v := 1) (V' := beV V (25 + k) 0) (W' := beW W (25 + k) 0) hmv2 hsm2 hk1
  refine gen2 (fun kk2 hk2 => m_image (h := CU (RP H (ip H (y + 1) k) P B) K (beV V (25 + k) 0) (beW W (25 + k) 0)) hsm2.1 hR.mi (fun z => absurd (by rw [e]; exact inB_nI hk (by omega)) z) (fun _ z => absurd z (by omega)) (fun k' hk' e' _ => ?_))
  obtain rfl : k = k' := nIj (by omega) (by omega) (e.symm.trans e')
  obtain ⟨h1, h2, h3, h4, ⟨s0, s1⟩, ⟨⟨m1, m2, m3, m4, m5, m6⟩, m7, m8, m8b, m9⟩, h7, b1, b2, b3⟩ := hR.t1
  obtain ⟨g1, g2, g7, g9, gS, gI⟩ := h1
  have hp0 := g1.pl0
  have eA : ∀ f, (f < 731 ∨ 736 < f) → imA I A k f = A f := fun f hf => by
    unfold imA
    rw [va_up_ne _ _ (by omega), va_up_ne _ _ (by omega), va_up_ne _ _ (by omega), va_up_ne _ _ (by omega), va_up_ne _ _ (by omega), va_up_ne _ _ (by omega)]
  have a31 : imA I A k 731 = upd (A 731) k 1 := by
    unfold imA
    rw [va_up_ne _ _ (by decide), va_up_ne _ _ (by decide), va_up_ne _ _ (by decide), va_up_ne _ _ (by decide), va_up_ne _ _ (by decide), va_up_self]
  have a32 : imA I A k 732 = law5 I (A 732) k := by
    unfold imA
    rw [va_up_ne _ _ (by decide), va_up_ne _ _ (by decide), va_up_ne _ _ (by decide), va_up_ne _ _ (by decide), va_up_self]
  have a33 : imA I A k 733 = va_cpy (A 712) (A 733) 0 (8 * k) 8 := by
    unfold imA
    rw [va_up_ne _ _ (by decide), va_up_ne _ _ (by decide), va_up_ne _ _ (by decide), va_up_self]
  have a34 : imA I A k 734 = va_cpy (A 713) (A 734) 0 (4 * k) 4 := by
    unfold imA
    rw [va_up_ne _ _ (by decide), va_up_ne _ _ (by decide), va_up_self]
  have a35 : imA I A k 735 = va_cpy (A 714) (A 735) 0 (4 * k) 4 := by
    unfold imA
    rw [va_up_ne _ _ (by decide), va_up_self]
  have a36 : imA I A k 736 = va_cpy (A 715) (A 736) 0 (14 * k) 14 := by
    unfold imA
    rw [va_up_self]
  have cpo : ∀ (f g : Nat → Int32) (m q j : Nat), q < 2 → q ≠ k → j < m → va_cpy f g 0 (m * k) m (m * q + j) = g (m * q + j) := by
    intro f g m q j hq hne hj
    unfold va_cpy
    rw [if_neg]
    intro z
    rcases Nat.lt_or_ge q k with w | w
    · have : k = 1 ∧ q = 0 := by omega
      obtain ⟨rfl, rfl⟩ := this
      omega
    · have : k = 0 ∧ q = 1 := by omega
      obtain ⟨rfl, rfl⟩ := this
      omega
  have cpn : ∀ (f g : Nat → Int32) (m j : Nat), j < m → va_cpy f g 0 (m * k) m (m * k + j) = f j := by
    intro f g m j hj
    unfold va_cpy
    rw [if_pos (by omega)]
    congr 1
    omega
  have qS : ∀ s a, s < 27 → s ≠ 25 + k → eqS V W s a → eqS (beV V (25 + k) 0) (beW W (25 + k) 0) s a := fun s a hs hne h => h.congr (beW_ne (by omega) (by omega)) (beW_ne (by omega) (by omega)) (beV_ne (by omega)) (beV_ne (by omega)) (fun _ _ => rfl)
  have hSH : SHP (RP H (ip H (y + 1) k) P B) K (y + 1) (x + 1) n cm := by
    refine ⟨g1, g2.rp hpk, g7.rpo hpk hp0 (by omega), g9, gS.rpo hpk hp0 (by omega), fun q hq => ?_⟩
    show SET (RP H (ip H (y + 1) k) P B) (ip H (y + 1) q)
    by_cases cq : q = k
    · rw [cq]; exact SET.rpn hpk (hE.set gS)
    · exact (gI q hq).rpo hpk (g1.ips q hq) (by omega)
  refine hk2 _ _ ⟨n, cm, at', am, by', tm, rs, hSH, h2, ?_, ?_, ⟨?_, fun i hi => ?_⟩, ⟨⟨?_, ?_, ?_, ?_, ?_, ?_⟩, ?_, fun j hj => ?_, fun r hr => ?_, fun r hr s hs => ?_⟩, fun q hq => ?_, ?_, fun k hk => ?_, ?_⟩
  · unfold RIn; rw [eA 701 (by decide)]; exact h3
  · rw [eA 712 (by decide), eA 714 (by decide), eA 713 (by decide)]; exact h4.rpo hpk hp0 (by omega)
  · rw [eA 715 (by decide)]; exact qS 0 _ (by omega) (by omega) s0
  · rw [eA 729 (by decide)]; exact qS (1 + i) _ (by omega) (by omega) (s1 i hi)
  · rw [beV_ne (by omega)]; exact m1
  · rw [beV_ne (by omega)]; exact m2
  · rw [beV_ne (by omega)]; exact m3
  · rw [beV_ne (by omega)]; exact m4
  · rw [beV_ne (by omega)]; exact m5
  · rw [beV_ne (by omega)]; exact m6
  · rw [beW_ne (by omega) (by omega), eA 705 (by decide)]; exact m7
  · rw [beW_ne (by omega) (by omega), eA 738 (by decide)]; exact m8 j hj
  · rw [beV_ne (by omega), eA 701 (by decide)]; exact m8b r hr
  · rw [beV_ne (by omega), beW_ne (by omega) (by omega), eA 702 (by decide), eA 703 (by decide)]; exact m9 r hr s hs
  · show (imA I A k 731 q = 0 → pI (RP H (ip H (y + 1) k) P B) (ip H (y + 1) q) 102 = 0) ∧ (imA I A k 731 q ≠ 0 → IMk (RP H (ip H (y + 1) k) P B) (beV V (25 + k) 0) (beW W (25 + k) 0) (imA I A k) (ip H (y + 1) q) q (30 * (t + 1)))
    rw [a31]
    unfold IMk
    rw [a32, a33, a34, a35, a36]
    by_cases cq : q = k
    · subst cq
      refine ⟨fun z => absurd ((if_pos rfl).symm.trans z) (by decide), fun _ => ?_⟩
      have lw0 : law5 I (A 732) q (5 * q) = I 707 := by
        unfold law5 upd
        rw [if_neg (by omega), if_neg (by omega), if_neg (by omega), if_neg (by omega), if_pos rfl]
      have lw1 : law5 I (A 732) q (5 * q + 1) = I 708 := by
        unfold law5 upd
        rw [if_neg (by omega), if_neg (by omega), if_neg (by omega), if_pos rfl]
      have lw2 : law5 I (A 732) q (5 * q + 2) = I 709 := by
        unfold law5 upd
        rw [if_neg (by omega), if_neg (by omega), if_pos rfl]
      have lw3 : law5 I (A 732) q (5 * q + 3) = I 710 := by
        unfold law5 upd
        rw [if_neg (by omega), if_pos rfl]
      have lw4 : law5 I (A 732) q (5 * q + 4) = I 711 := if_pos rfl
      rw [lw0, lw1, lw2, lw3, lw4]
      refine ⟨n, cm, hE.pn g7, ⟨h2.1.1, c⟩, h2.2.1.1, ?_, ?_, ?_, ?_⟩
      · have c4 := g7.2.2
        have h4' := hE.ple (p := ip H (y + 1) q) hpk c4 h4
        refine ⟨h4'.1, fun j hj => ?_, fun c hc => ?_⟩
        · dsimp only
          rw [cpn _ _ 8 j hj]; exact h4'.2.1 j hj
        · dsimp only
          rw [cpn _ _ 4 c (by omega), cpn _ _ 4 c (by omega)]; exact h4'.2.2 c hc
      · exact eqS.be s0 (fun j hj => cpn _ _ 14 j hj)
      · exact b1.congr (fun j hj => cpn _ _ 14 j hj)
      · refine ⟨b3.1, b3.2.1, fun c hc => ?_⟩
        have c4 := g7.2.2
        dsimp only
        rw [cpn _ _ 4 c (by omega), cpn _ _ 4 c (by omega)]
        exact b3.2.2 c hc
    · have hq7 := h7 q hq
      have hpq := g1.ips q hq
      have e1 : upd (A 731) k 1 q = A 731 q := if_neg cq
      rw [e1, rp_pI hpk hpq (by omega)]
      refine ⟨hq7.1, fun hi => ?_⟩
      · obtain ⟨n', cm', x1, x2, x3, x4, x5, x6, x7⟩ := hq7.2 hi
        have lo : ∀ i, i < 5 → law5 I (A 732) k (5 * q + i) = A 732 (5 * q + i) := by
          intro i hi
          unfold law5 upd
          rw [if_neg (by omega), if_neg (by omega), if_neg (by omega), if_neg (by omega), if_neg (by omega)]
        have lo0 := lo 0 (by omega)
        rw [Nat.add_zero] at lo0
        rw [lo0, lo 1 (by omega), lo 2 (by omega), lo 3 (by omega), lo 4 (by omega)]
        have c4 := x1.2.2
        have x4 := x4.rpo (P := P) (B := B) hpk hpq (by omega)
        refine ⟨n', cm', x1.rpo hpk hpq (by omega), x2, x3, ⟨x4.1, fun j hj => ?_, fun c hc => ?_⟩, (qS (25 + q) _ (by omega) (by omega) x5).congr rfl rfl rfl rfl (fun j hj => cpo _ _ 14 q j hq cq hj), x6.congr (fun j hj => cpo _ _ 14 q j hq cq hj), x7.1, x7.2.1, fun c hc => ?_⟩
        · dsimp only
          rw [cpo _ _ 8 q j hq cq hj]; exact x4.2.1 j hj
        · dsimp only
          rw [cpo _ _ 4 q c hq cq (by omega), cpo _ _ 4 q c hq cq (by omega)]; exact x4.2.2 c hc
        · dsimp only
          rw [cpo _ _ 4 q c hq cq (by omega), cpo _ _ 4 q c hq cq (by omega)]; exact x7.2.2 c hc
  · rw [eA 715 (by decide)]; exact b1
  · rw [eA 729 (by decide)]; exact b2 k hk
  · rw [eA 714 (by decide), eA 713 (by decide)]; exact b3
theorem b_restore {ki : Int32} (hmv : MVal H (x + 1) I A) (hR : RD H K V W (y + 1) (x + 1) I A n cm at' am by' tm rs t) : Both 0 0 mX6_restore mX7_restore [.inl ki] (y + 1) (x + 1) (CU H K V W) (INV (y + 1) (x + 1) (t + 1)) := by
  intro kk1 hk1
  have im := hR.2.2.2.2.2.2.1
  obtain ⟨m, hm⟩ : ∃ m : Nat → Nat, m = fun k => (pI H (ip H (y + 1) k) 102).toNatClampNeg := ⟨_, rfl⟩
  have m0 : ∀ k, k < 2 → A 731 k = 0 → pI H (ip H (y + 1) k) 102 = nI (m k) ∧ m k = 0 := fun k hk e => by
    have q := (im k hk).1 e
    have z : m k = 0 := by rw [hm]; dsimp only; rw [q]; rfl
    exact ⟨by rw [q, z]; rfl, z⟩
  have m1' : ∀ k, k < 2 → A 731 k ≠ 0 → pI H (ip H (y + 1) k) 102 = nI (m k) ∧ 0 < m k ∧ m k ≤ 8 := fun k hk e => by
    obtain ⟨n', cm', x1, x2, -⟩ := (im k hk).2 e
    have n8 := x1.1.2
    have z : m k = n' := by rw [hm]; dsimp only; rw [x1.1.1, nI_clamp (by omega)]
    rw [z]
    exact ⟨x1.1.1, x2.2, n8⟩
  have mm : ∀ k, k < 2 → pI H (ip H (y + 1) k) 102 = nI (m k) ∧ m k ≤ 8 := fun k hk => by
    by_cases e : A 731 k = 0
    · exact ⟨(m0 k hk e).1, by rw [(m0 k hk e).2]; omega⟩
    · exact ⟨(m1' k hk e).1, (m1' k hk e).2.2⟩
  refine c_restore (m := m) hR.cs mm (fun q => ro hmv hR hk1 (fun kk2 h2 => m_restore hR.ms (fun _ => h2 A (EA.rf A)) (fun k hk e _ => absurd (by rw [e]; exact inB_nI hk (by omega)) q) (fun k hk e _ => absurd (by rw [e]; exact inB_nI hk (by omega)) q)))
    (fun k hk e z => ro hmv hR hk1 (fun kk2 h2 => m_restore hR.ms (fun q => absurd (by rw [e]; exact inB_nI hk (by omega)) q) (fun k' _ _ _ => h2 A (EA.rf A)) (fun k' hk' e' w => ?_)))
    (fun k P B hk e z hE => ?_)
  · obtain rfl : k = k' := nIj (by omega) (by omega) (e.symm.trans e')
    have := (m1' k hk w).2.1
    omega
  · have nz1 : ¬ A 731 k = 0 := fun w => by
      have := (m0 k hk w).2
      omega
    obtain ⟨h1, h2, h3, h4, ⟨s0, s1⟩, ⟨⟨m1, m2, m3, m4, m5, m6⟩, m7, m8, m8b, m9⟩, h7, b1, b2, b3⟩ := hR.t1
    obtain ⟨g1, g2, g7, g9, gS, gI⟩ := h1
    obtain ⟨n', cm', x1, x2, x3, x4, x5, x6, x7⟩ := (h7 k hk).2 nz1
    have hp0 := g1.pl0
    have hpk : PQ H K (ip H (y + 1) k) (1 + k) := g1.ips k hk
    have hE : PEQ H (ip H (y + 1) k) P B := hE
    have hmv2 : MVal (RP H (hfR H 604 (y + 1)) P B) (x + 1) I A := hmv.rp hR.sm hp0
    have hsm2 : SHm (RP H (hfR H 604 (y + 1)) P B) K (x + 1) := hR.sm
    have hSH : SHP (RP H (hfR H 604 (y + 1)) P B) K (y + 1) (x + 1) n' cm' := by
      refine ⟨g1, g2.rp hp0, hE.pn x1, g9, SET.rpn hp0 (hE.set (gI k hk)), fun q hq => ?_⟩
      show SET (RP H (hfR H 604 (y + 1)) P B) (ip H (y + 1) q)
      exact (gI q hq).rpo hp0 (g1.ips q hq) (by omega)
    have gen2 := gen (v := 1) (V' := up2 (beV V 0 (25 + k)) 608 1 0) (W' := beW W 0 (25 + k)) hmv2 hsm2 hk1
    refine gen2 (fun kk2 hk2 => m_restore (h := CU (RP H (hfR H 604 (y + 1)) P B) K (up2 (beV V 0 (25 + k)) 608 1 0) (beW W 0 (25 + k))) hsm2.1 (fun w => absurd (by rw [e]; exact inB_nI hk (by omega)) w) (fun k' hk' e' w => ?_) (fun k' hk' e' _ => ?_))
    · obtain rfl : k = k' := nIj (by omega) (by omega) (e.symm.trans e')
      exact absurd w nz1
    · obtain rfl : k = k' := nIj (by omega) (by omega) (e.symm.trans e')
      have eA : ∀ f, (f < 712 ∨ 715 < f) → reA A k f = A f := fun f hf => by
        unfold reA
        rw [va_up_ne _ _ (by omega), va_up_ne _ _ (by omega), va_up_ne _ _ (by omega), va_up_ne _ _ (by omega)]
      have a12 : reA A k 712 = va_cpy (A 733) (A 712) (8 * k) 0 8 := by
        unfold reA
        rw [va_up_ne _ _ (by decide), va_up_ne _ _ (by decide), va_up_ne _ _ (by decide), va_up_self]
      have a13 : reA A k 713 = va_cpy (A 734) (A 713) (4 * k) 0 4 := by
        unfold reA
        rw [va_up_ne _ _ (by decide), va_up_ne _ _ (by decide), va_up_self]
      have a14 : reA A k 714 = va_cpy (A 735) (A 714) (4 * k) 0 4 := by
        unfold reA
        rw [va_up_ne _ _ (by decide), va_up_self]
      have a15 : reA A k 715 = va_cpy (A 736) (A 715) (14 * k) 0 14 := by
        unfold reA
        rw [va_up_self]
      have cpn : ∀ (f g : Nat → Int32) (b m j : Nat), j < m → va_cpy f g b 0 m j = f (b + j) := by
        intro f g b m j hj
        unfold va_cpy
        rw [if_pos (by omega)]
        congr 1
      have qS : ∀ s a, s < 27 → s ≠ 0 → eqS V W s a → eqS (up2 (beV V 0 (25 + k)) 608 1 0) (beW W 0 (25 + k)) s a := fun s a hs hne h => h.congr (beW_ne (by omega) (by omega)) (beW_ne (by omega) (by omega)) (by rw [up2_nf (by decide), beV_ne (by omega)]) (by rw [up2_nf (by decide), beV_ne (by omega)]) (fun _ _ => rfl)
      have c4 := x1.2.2
      refine hk2 _ _ ⟨n', cm', at', 0, by', tm, rs, hSH, ⟨⟨x2.1, x1.1.2⟩, ⟨x3, x1.2.2⟩, h2.2.2.1, ⟨rfl, by omega⟩, h2.2.2.2.2.1, h2.2.2.2.2.2⟩, ?_, ?_, ⟨?_, fun i hi => ?_⟩, ⟨⟨?_, ?_, ?_, ?_, ?_, ?_⟩, ?_, fun j hj => ?_, fun r hr => ?_, fun r hr s hs => ?_⟩, fun k2 hk2' => ?_, ?_, fun k hk => absurd hk (Nat.not_lt_zero k), ?_⟩
      · unfold RIn; rw [eA 701 (by decide)]; exact h3
      · rw [a12, a13, a14]
        have x4' := hE.ple (p := hfR H 604 (y + 1)) hp0 c4 x4
        refine ⟨x4'.1, fun j hj => ?_, fun c hc => ?_⟩
        · rw [cpn _ _ _ 8 j hj]; exact x4'.2.1 j hj
        · rw [cpn _ _ _ 4 c (by omega), cpn _ _ _ 4 c (by omega)]; exact x4'.2.2 c hc
      · rw [a15]
        have e1 := eqS.be (V := V) (W := W) (u := 0) x5 (b := va_cpy (A 736) (A 715) (14 * k) 0 14) (fun j hj => cpn _ _ _ 14 j hj)
        exact e1.congr rfl rfl (up2_nf (by decide)) (up2_nf (by decide)) (fun _ _ => rfl)
      · rw [eA 729 (by decide)]; exact qS (1 + i) _ (by omega) (by omega) (s1 i hi)
      · rw [up2_nf (by decide), beV_ne (by decide)]; exact m1
      · rw [up2_eq]; rfl
      · rw [up2_nf (by decide), beV_ne (by decide)]; exact m3
      · rw [up2_nf (by decide), beV_ne (by decide)]; exact m4
      · rw [up2_nf (by decide), beV_ne (by decide)]; exact m5
      · rw [up2_nf (by decide), beV_ne (by decide)]; exact m6
      · rw [beW_ne (by decide) (by decide), eA 705 (by decide)]; exact m7
      · rw [beW_ne (by decide) (by decide), eA 738 (by decide)]; exact m8 j hj
      · rw [up2_nf (by decide), beV_ne (by omega), eA 701 (by decide)]; exact m8b r hr
      · rw [up2_nf (by decide), beV_ne (by omega), beW_ne (by omega) (by omega), eA 702 (by decide), eA 703 (by decide)]; exact m9 r hr s hs
      · have hp2 := g1.ips k2 hk2'
        show (reA A k 731 k2 = 0 → pI (RP H (hfR H 604 (y + 1)) P B) (ip H (y + 1) k2) 102 = 0) ∧ (reA A k 731 k2 ≠ 0 → IMk (RP H (hfR H 604 (y + 1)) P B) (up2 (beV V 0 (25 + k)) 608 1 0) (beW W 0 (25 + k)) (reA A k) (ip H (y + 1) k2) k2 (30 * (t + 1)))
        rw [eA 731 (by decide), rp_pI hp0 hp2 (by omega)]
        refine ⟨(h7 k2 hk2').1, fun hi => ?_⟩
        obtain ⟨n2, cm2, w1, w2, w3, w4, w5, w6, w7⟩ := (h7 k2 hk2').2 hi
        unfold IMk
        rw [eA 732 (by decide), eA 733 (by decide), eA 734 (by decide), eA 735 (by decide), eA 736 (by decide)]
        exact ⟨n2, cm2, w1.rpo hp0 hp2 (by omega), w2, w3, w4.rpo hp0 hp2 (by omega), qS (25 + k2) _ (by omega) (by omega) w5, w6, w7⟩
      · rw [a15]; exact x6.congr (fun j hj => cpn _ _ _ 14 j hj)
      · refine ⟨x7.1, x7.2.1, fun c hc => ?_⟩
        rw [a13, a14, cpn _ _ _ 4 c (by omega), cpn _ _ _ 4 c (by omega)]
        exact x7.2.2 c hc
theorem whS_cg {p q : Nat → Bool} (h : ∀ k, p k = q k) : ∀ n, whS p n = whS q n
  | 0 => rfl
  | n + 1 => by
    show whS p n ||| (if p (n + 1) = true then _ else 0) = whS q n ||| (if q (n + 1) = true then _ else 0)
    rw [whS_cg h n, h]
theorem alB_cg {p q : Nat → Bool} : ∀ n, (∀ k, k < n → p k = q k) → alB p n = alB q n
  | 0, _ => rfl
  | n + 1, h => by
    show (alB p n && p n) = (alB q n && q n)
    rw [alB_cg n (fun k hk => h k (by omega)), h n (by omega)]
theorem b_who {cl rw' i many : Int32} (hmv : MVal H (x + 1) I A) (hR : RD H K V W (y + 1) (x + 1) I A n cm at' am by' tm rs t) : Both 0 0 mX6_who mX7_who [.inl cl, .inl rw', .inl i, .inl many] (y + 1) (x + 1) (CU H K V W) (INV (y + 1) (x + 1) (t + 1)) := by
  intro kk1 hk1
  have c4 := hR.c4
  have hrw := hR.rl
  have hri := hR.2.2.1
  have ok : ∀ c r m, c < cm → cl = nI c → r < 8 → rw' = nI r → 1 ≤ m → m ≤ 8 → many = nI m → inB cl cm ∧ inB rw' 8 ∧ inR many 1 8 := fun c r m h1 e1 h2 e2 h3 h4 e3 => ⟨by rw [e1]; exact inB_nI h1 (by omega), by rw [e2]; exact inB_nI h2 (by omega), by rw [e3]; exact ⟨(nI_leI (a := 1) (by omega) (by omega)).mpr h3, (nI_leI (b := 8) (by omega) (by omega)).mpr h4⟩⟩
  have eqs : ∀ c r m c' r' m', c < cm → cl = nI c → r < 8 → rw' = nI r → m ≤ 8 → many = nI m → c' < cm → cl = nI c' → r' < 8 → rw' = nI r' → m' ≤ 8 → many = nI m' → c' = c ∧ r' = r ∧ m' = m := fun c r m c' r' m' a1 a2 a3 a4 a5 a6 b1 b2 b3 b4 b5 b6 => ⟨nIj (by omega) (by omega) (b2.symm.trans a2), nIj (by omega) (by omega) (b4.symm.trans a4), nIj (by omega) (by omega) (b6.symm.trans a6)⟩
  have pt : ∀ s i' k', s ≤ 40 → i' + k' ≤ s → isPt s (nI i') (nI k') := fun s i' k' hs h => by
    unfold isPt
    rw [nI_toInt (by omega), nI_toInt (by omega)]
    omega
  refine c_who hR.cs hR.pn hrw (fun q => ro hmv hR hk1 (fun kk2 h2 => m_who hR.ms hR.mi hri (fun _ => h2 A (EA.rf A)) (fun c r m a1 a2 a3 a4 a5 a6 a7 _ => absurd (ok c r m a1 a2 a3 a4 a5 a6 a7) q) (fun c r m s a1 a2 a3 a4 a5 a6 a7 _ _ => absurd (ok c r m a1 a2 a3 a4 a5 a6 a7) q) (fun c r m s i' a1 a2 a3 a4 a5 a6 a7 _ _ _ _ => absurd (ok c r m a1 a2 a3 a4 a5 a6 a7) q) (fun c r m s i' a1 a2 a3 a4 a5 a6 a7 _ _ _ _ => absurd (ok c r m a1 a2 a3 a4 a5 a6 a7) q)))
    (fun c r m a1 a2 a3 a4 a5 a6 a7 en => gen hmv hR.sm hk1 (fun kk2 hk2 => m_who hR.ms hR.mi hri (fun q => absurd (ok c r m a1 a2 a3 a4 a5 a6 a7) q) (fun _ _ _ _ _ _ _ _ _ _ _ => hk2 _ _ hR.t1.stat.toX) (fun c' r' m' s b1 b2 b3 b4 b5 b6 b7 es _ => ?_) (fun c' r' m' s i' b1 b2 b3 b4 b5 b6 b7 es _ _ _ => ?_) (fun c' r' m' s i' b1 b2 b3 b4 b5 b6 b7 es _ _ _ => ?_)))
    (fun c r m s a1 a2 a3 a4 a5 a6 a7 es np => gen hmv hR.sm hk1 (fun kk2 hk2 => m_who hR.ms hR.mi hri (fun q => absurd (ok c r m a1 a2 a3 a4 a5 a6 a7) q) (fun c' r' m' b1 b2 b3 b4 b5 b6 b7 en => ?_) (fun _ _ _ _ _ _ _ _ _ _ _ _ _ => hk2 _ _ hR.t1.stat.toX) (fun c' r' m' s' i' b1 b2 b3 b4 b5 b6 b7 es' ei hi _ => ?_) (fun c' r' m' s' i' b1 b2 b3 b4 b5 b6 b7 es' ei hi _ => ?_)))
    (fun c r m s i' a1 a2 a3 a4 a5 a6 a7 es ei hi nl => ro hmv hR hk1 (fun kk2 hk2 => m_who hR.ms hR.mi hri (fun q => absurd (ok c r m a1 a2 a3 a4 a5 a6 a7) q) (fun c' r' m' b1 b2 b3 b4 b5 b6 b7 en => ?_) (fun c' r' m' s' b1 b2 b3 b4 b5 b6 b7 es' np => ?_) (fun _ _ _ _ _ _ _ _ _ _ _ _ _ _ _ _ => hk2 A (EA.rf A)) (fun c' r' m' s' i2 b1 b2 b3 b4 b5 b6 b7 es' ei' hi' yl => ?_)))
    (fun c r m s i' a1 a2 a3 a4 a5 a6 a7 es ei hi yl => ?_)
  · obtain ⟨rfl, rfl, rfl⟩ := eqs c r m c' r' m' a1 a2 a3 a4 a6 a7 b1 b2 b3 b4 b6 b7
    rw [en] at es; cases es
  · obtain ⟨rfl, rfl, rfl⟩ := eqs c r m c' r' m' a1 a2 a3 a4 a6 a7 b1 b2 b3 b4 b6 b7
    rw [en] at es; cases es
  · obtain ⟨rfl, rfl, rfl⟩ := eqs c r m c' r' m' a1 a2 a3 a4 a6 a7 b1 b2 b3 b4 b6 b7
    rw [en] at es; cases es
  · obtain ⟨rfl, rfl, rfl⟩ := eqs c r m c' r' m' a1 a2 a3 a4 a6 a7 b1 b2 b3 b4 b6 b7
    rw [en] at es; cases es
  · obtain ⟨rfl, rfl, rfl⟩ := eqs c r m c' r' m' a1 a2 a3 a4 a6 a7 b1 b2 b3 b4 b6 b7
    rw [es] at es'; cases es'
    exact absurd (by rw [ei]; exact pt _ _ _ (hR.row a3 es).1 hi) np
  · obtain ⟨rfl, rfl, rfl⟩ := eqs c r m c' r' m' a1 a2 a3 a4 a6 a7 b1 b2 b3 b4 b6 b7
    rw [es] at es'; cases es'
    exact absurd (by rw [ei]; exact pt _ _ _ (hR.row a3 es).1 hi) np
  · obtain ⟨rfl, rfl, rfl⟩ := eqs c r m c' r' m' a1 a2 a3 a4 a6 a7 b1 b2 b3 b4 b6 b7
    rw [en] at es; cases es
  · obtain ⟨rfl, rfl, rfl⟩ := eqs c r m c' r' m' a1 a2 a3 a4 a6 a7 b1 b2 b3 b4 b6 b7
    rw [es] at es'; cases es'
    exact absurd (by rw [ei]; exact pt _ _ _ (hR.row a3 es).1 hi) np
  · obtain ⟨rfl, rfl, rfl⟩ := eqs c r m c' r' m' a1 a2 a3 a4 a6 a7 b1 b2 b3 b4 b6 b7
    rw [es] at es'; cases es'
    have s40 := (hR.row a3 es).1
    obtain rfl : i' = i2 := nIj (by omega) (by omega) (ei.symm.trans ei')
    exact absurd (fun w hw => by rw [(hR.row a3 es).2.2 _ (by omega)]; exact yl w hw) nl
  · obtain ⟨s40, -, sw'⟩ := hR.row a3 es
    have ev : whS (whG H (hfR H 604 (y + 1)) V W c r i' m) 5 = whS (whF A c r i' m) 5 := by
      refine whS_cg (fun k => ?_) 5
      refine alB_cg m (fun w hw => ?_)
      rw [sw' _ (by omega), sw' _ (by omega), hR.ha a1, hR.dy]
    rw [ev]
    refine gen hmv hR.sm hk1 (fun kk2 hk2 => m_who hR.ms hR.mi hri (fun q => absurd (ok c r m a1 a2 a3 a4 a5 a6 a7) q) (fun c' r' m' b1 b2 b3 b4 b5 b6 b7 en => ?_) (fun c' r' m' s' b1 b2 b3 b4 b5 b6 b7 es' np => ?_) (fun c' r' m' s' i2 b1 b2 b3 b4 b5 b6 b7 es' ei' hi' nl => ?_) (fun c' r' m' s' i2 b1 b2 b3 b4 b5 b6 b7 es' ei' hi' _ => ?_))
    · obtain ⟨rfl, rfl, rfl⟩ := eqs c r m c' r' m' a1 a2 a3 a4 a6 a7 b1 b2 b3 b4 b6 b7
      rw [en] at es; cases es
    · obtain ⟨rfl, rfl, rfl⟩ := eqs c r m c' r' m' a1 a2 a3 a4 a6 a7 b1 b2 b3 b4 b6 b7
      rw [es] at es'; cases es'
      exact absurd (by rw [ei]; exact pt _ _ _ s40 hi) np
    · obtain ⟨rfl, rfl, rfl⟩ := eqs c r m c' r' m' a1 a2 a3 a4 a6 a7 b1 b2 b3 b4 b6 b7
      rw [es] at es'; cases es'
      obtain rfl : i' = i2 := nIj (by omega) (by omega) (ei.symm.trans ei')
      exact absurd (fun w hw => by rw [← sw' _ (by omega)]; exact yl w hw) nl
    · obtain ⟨rfl, rfl, rfl⟩ := eqs c r m c' r' m' a1 a2 a3 a4 a6 a7 b1 b2 b3 b4 b6 b7
      rw [es] at es'; cases es'
      obtain rfl : i' = i2 := nIj (by omega) (by omega) (ei.symm.trans ei')
      exact hk2 _ _ hR.t1.stat.toX
end Q14
