/-! ===== pairs: row ===== -/
section Q13
variable {H : hp} {K K2 : Nat → Nat} {V W : Nat → Nat → Int32} {y x n cm at' am by' tm t : Nat} {I : Nat → Int32} {A : Nat → Nat → Int32} {rs : Nat → Option Nat}
theorem SS.kr {z s : Nat} (h : SS H K z s) (k2 : ∀ z, K z < 300 → K2 z = K z) : SS H K2 z s := by
  obtain ⟨⟨a1, a2, a3⟩, ⟨a4, a5, a6⟩, ⟨a7, a8, a9⟩⟩ := h
  exact ⟨⟨a1, (k2 _ (by omega)).trans a2, a3⟩, ⟨a4, (k2 _ (by omega)).trans a5, a6⟩, ⟨a7, (k2 _ (by omega)).trans a8, a9⟩⟩
theorem AR.kr {a s m : Nat} (h : AR H K a s m) (hs : s < 300) (k2 : ∀ z, K z < 300 → K2 z = K z) : AR H K2 a s m := ⟨h.1, (k2 _ (by rw [h.2.1]; exact hs)).trans h.2.1, h.2.2⟩
theorem CS.kr (h : CS H K y) (k1 : KI K2) (k2 : ∀ z, K z < 300 → K2 z = K z) (hp : PP H K2 (hfR H 605 y)) : CS H K2 y := by
  obtain ⟨⟨-, c2⟩, -, n1, t1, ⟨a1, a2⟩, i1, ⟨s1, s2⟩, f1, ⟨⟨q1, q2⟩, q3, q4, q5, q6⟩, ⟨⟨u1, u2⟩, u3⟩, r1⟩ := h
  exact ⟨⟨k1, (k2 _ (by omega)).trans c2⟩, hp, n1.kr k2, t1.kr (by omega) k2, ⟨a1.kr (by omega) k2, fun i hi => (a2 i hi).kr k2⟩, i1.kr (by omega) k2, ⟨s1.kr (by omega) k2, fun i hi => (s2 i hi).kr k2⟩, f1.kr k2, ⟨⟨q1, (k2 _ (by omega)).trans q2⟩, q3.kr k2, q4.kr (by omega) k2, q5.kr (by omega) k2, q6.kr (by omega) k2⟩, ⟨⟨u1, (k2 _ (by omega)).trans u2⟩, u3.kr (by omega) k2⟩, r1.kr (by omega) k2⟩
set_option maxRecDepth 20000 in
theorem b_row {rw' la nn : Int32} (hmv : MVal H (x + 1) I A) (hR : RD H K V W (y + 1) (x + 1) I A n cm at' am by' tm rs t) : Both 2 42 mX6_row mX7_row [.inl rw', .inl la, .inl nn] (y + 1) (x + 1) (CU H K V W) (INV (y + 1) (x + 1) (t + 1)) := by
  intro kk1 hk1
  have hri := hR.2.2.1
  have h02 : inR la 0 2 ↔ inB la 3 := inR_B (n := 3) (by decide)
  have hK := hR.1.kz
  have g40 : ∀ s, s ≤ 40 → ¬ (40 : Int32) < nI s := fun s hs => Int32.not_lt.mpr ((nI_leI (b := 40) (by omega) (by omega)).mpr hs)
  refine c_row hR.cs hK hR.1.2.2.2.2.2.1.1.2 hR.1.2.2.1 (fun q => ro hmv hR hk1 (fun kk2 h2 => m_row hR.ms (fun _ => h2 A (EA.rf A)) (fun a1 a2 a3 => absurd ⟨a1, h02.mp a2, fun z => absurd (Int32.lt_trans z a3) (by decide)⟩ q) (fun r s hr e q2 hs es => absurd ⟨by rw [e]; exact inB_nI hr (by omega), h02.mp q2, by rw [es]; exact g40 s hs⟩ q)))
    (fun a1 a2 a3 => gen hmv hR.sm hk1 (fun kk2 hk2 => m_row hR.ms (fun z => absurd ⟨a1, h02.mpr a2, fun z => absurd (Int32.lt_trans z a3) (by decide)⟩ z) (fun _ _ _ => hk2 _ _ hR.t1.stat.toX) (fun r s hr e q2 hs es => absurd a3 (by rw [es]; exact nI_pos (by omega)))))
    (fun r s xx a H2 hr e q2 hs es hN => ?_)
  obtain ⟨hE, x1, x2, x3, x4, x5, x6, x7⟩ := hN
  obtain ⟨g1, g2, g3, g4, g5, g6, g7, g8, g9⟩ := hR.1
  have kx : K xx = 500 := g2 xx x1
  have ka : K a = 500 := g2 a (by omega)
  have kr : K (hfR H 600 (y + 1)) = 50 := g1.rows.2.1
  have zr : hfR H 600 (y + 1) < hz H := hK.lt (by omega)
  have zy : y + 1 < hz H := hK.lt (by rw [g1.y1]; decide)
  obtain ⟨hh, ehh⟩ : ∃ hh : hp, hh = CU (waR H2 (hfR H 600 (y + 1)) (va_up (haR H (hfR H 600 (y + 1))) r xx)) K (up2 V 604 1 0) W := ⟨_, rfl⟩
  have zhh : hz hh = hz H2 := by rw [ehh]; rfl
  have bR : ∀ z, z < hz H → ∀ f, hfR hh f z = hfR H f z := fun z hz' f => by rw [ehh]; exact (hE.2 z hz').2.1 f
  have bL : ∀ z, z < hz H → haL hh z = haL H z := fun z hz' => by rw [ehh]; exact (hE.2 z hz').2.2.2.1
  have bA : ∀ z, z < hz H → z ≠ hfR H 600 (y + 1) → haR hh z = haR H z := fun z hz' hne => by
    rw [ehh]
    exact (va_up_ne _ _ hne).trans (hE.2 z hz').2.2.2.2
  have bI : ∀ z, z < hz H → 400 ≤ K z → (∀ f, hfI hh f z = hfI H f z) ∧ haI hh z = haI H z := fun z hz' h4 => by
    rw [ehh]
    exact ⟨fun f => (CU_fIo h4).trans ((hE.2 z hz').1 f), (CU_aIo h4).trans (hE.2 z hz').2.2.1⟩
  have ho : ∀ z, K z < 400 → (∀ f, hfI hh f z = up2 V 604 1 0 f (K z)) ∧ haI hh z = W (K z) := fun z h4 => by
    rw [ehh]
    exact ⟨fun f => CU_fI rfl h4, CU_aI rfl h4⟩
  have xR : hfR hh 301 xx = a := by rw [ehh]; exact x4
  have xI : hfI hh 300 xx = la := by rw [ehh]; exact (CU_fIo (by omega)).trans x5
  have aL : haL hh a = s := by rw [ehh]; exact x6
  have aI : haI hh a = (fun _ => 0) := by rw [ehh]; exact (CU_aIo (by omega)).trans x7
  have hS1 : CS hh K (y + 1) := by
    rw [ehh]
    exact (g1.ex hK g6.1.2 hE).wra (by omega) (by omega)
  have rr : haR hh (hfR H 600 (y + 1)) = va_up (haR H (hfR H 600 (y + 1))) r xx := by
    rw [ehh]
    exact va_up_self _ _ _
  rw [← ehh]
  clear ehh
  obtain ⟨K3, hK3⟩ : ∃ K3 : Nat → Nat, K3 = rsl K r xx a := ⟨_, rfl⟩
  have k3x : K3 xx = 310 + r := by rw [hK3]; exact rsl_x
  have k3a : K3 a = 300 + r := by rw [hK3]; exact rsl_a (by omega)
  have k34 : ∀ z, z < hz H → 400 ≤ K z → K3 z = K z := fun z hz' h4 => by rw [hK3]; exact rsl_400 (by omega) (by omega) h4 hr
  have k33 : ∀ z, K z < 300 → K3 z = K z := fun z h3 => by rw [hK3]; exact rsl_o (fun w => by rw [w] at h3; omega) (fun w => by rw [w] at h3; omega) (by omega) (by omega)
  have k3o : ∀ z q, q < 8 → q ≠ r → K z = 310 + q ∨ K z = 300 + q → K3 z = K z := fun z q hq hne h3 => by rw [hK3]; exact rsl_o (fun w => by rw [w] at h3; omega) (fun w => by rw [w] at h3; omega) (by omega) (by omega)
  have k3z : ∀ z, hz hh ≤ z → K3 z = 500 := fun z hz' => by
    rw [zhh] at hz'
    have := hE.1
    rw [hK3, rsl_400 (by omega) (by omega) (by rw [g2 z (by omega)]; decide) hr]
    exact g2 z (by omega)
  have k3i : KI K3 := by rw [hK3]; exact rsl_ki g1.k hr (by omega)
  have k3c : ∀ z, K3 z < 400 → z = xx ∨ z = a ∨ (K3 z = K z ∧ K z ≠ 310 + r ∧ K z ≠ 300 + r) := by
    intro z hz'
    by_cases e1 : z = xx
    · exact Or.inl e1
    · by_cases e2 : z = a
      · exact Or.inr (Or.inl e2)
      · by_cases e3 : K z = 310 + r ∨ K z = 300 + r
        · rw [hK3] at hz'
          unfold rsl at hz'
          rw [if_neg e1, if_neg e2, if_pos e3] at hz'
          omega
        · exact Or.inr (Or.inr ⟨by rw [hK3]; exact rsl_o e1 e2 (fun w => e3 (Or.inl w)) (fun w => e3 (Or.inr w)), fun w => e3 (Or.inl w), fun w => e3 (Or.inr w)⟩)
  obtain ⟨V3, hV3⟩ : ∃ V3 : Nat → Nat → Int32, V3 = fun f q => if q = 310 + r then hfI hh f xx else if q = 300 + r then hfI hh f a else up2 V 604 1 0 f q := ⟨_, rfl⟩
  obtain ⟨W3, hW3⟩ : ∃ W3 : Nat → Nat → Int32, W3 = fun q => if q = 310 + r then haI hh xx else if q = 300 + r then haI hh a else W q := ⟨_, rfl⟩
  have vo : ∀ f q, q ≠ 310 + r → q ≠ 300 + r → V3 f q = up2 V 604 1 0 f q := fun f q q1 q2 => by
    rw [hV3]
    show (if q = 310 + r then _ else if q = 300 + r then _ else _) = _
    rw [if_neg q1, if_neg q2]
  have wo : ∀ q, q ≠ 310 + r → q ≠ 300 + r → W3 q = W q := fun q q1 q2 => by
    rw [hW3]
    show (if q = 310 + r then _ else if q = 300 + r then _ else _) = _
    rw [if_neg q1, if_neg q2]
  have vx : ∀ f, V3 f (310 + r) = hfI hh f xx := fun f => by rw [hV3]; exact if_pos rfl
  have va : ∀ f, V3 f (300 + r) = hfI hh f a := fun f => by
    rw [hV3]
    show (if 300 + r = 310 + r then _ else if 300 + r = 300 + r then _ else _) = _
    rw [if_neg (by omega), if_pos rfl]
  have wx : W3 (310 + r) = haI hh xx := by rw [hW3]; exact if_pos rfl
  have wa : W3 (300 + r) = haI hh a := by
    rw [hW3]
    show (if 300 + r = 310 + r then _ else if 300 + r = 300 + r then _ else _) = _
    rw [if_neg (by omega), if_pos rfl]
  have ecu : CU hh K3 V3 W3 = hh := by
    refine CU_re (fun z h4 => ?_)
    rcases k3c z h4 with rfl | rfl | ⟨e1, e2, e3⟩
    · rw [k3x]; exact ⟨fun f => (vx f).symm, wx.symm⟩
    · rw [k3a]; exact ⟨fun f => (va f).symm, wa.symm⟩
    · rw [e1] at h4 ⊢
      exact ⟨fun f => ((ho z h4).1 f).trans (vo f _ e2 e3).symm, (ho z h4).2.trans (wo _ e2 e3).symm⟩
  clear hV3 hW3 hK3
  have hsm3 : SHm hh K3 (x + 1) := by
    obtain ⟨s1, ⟨s2, s3⟩, s4⟩ := g9
    have r := bR _ s3
    refine ⟨⟨fun f hf => ?_, fun f hf g hg => ?_⟩, ⟨(k34 _ s3 (by rw [s2]; decide)).trans s2, ?_⟩, fun f hf => ?_⟩
    · rw [r, bL _ (s4 f hf).2]; exact s1.1 f hf
    · rw [r, r]; exact s1.2 f hf g hg
    · rw [zhh]; exact Nat.lt_of_lt_of_le s3 hE.1
    · rw [r, zhh]
      have := s4 f hf
      exact ⟨(k34 _ this.2 (by rw [this.1]; decide)).trans this.1, Nat.lt_of_lt_of_le this.2 hE.1⟩
  have hmv3 : MVal hh (x + 1) I A := by
    have s3 := g9.2.1.2
    refine ⟨fun k => ((bI _ s3 (by rw [g9.2.1.1]; decide)).1 k).trans (hmv.1 k), fun f hf => ?_⟩
    have := g9.2.2 f hf
    rw [bR _ s3, (bI _ this.2 (by rw [this.1]; decide)).2]
    exact hmv.2 f hf
  have pp3 : ∀ q, PPm H K q → PPm hh K3 q ∧ (∀ f, pI hh q f = pI H q f) ∧ ∀ f, (f = 105 ∨ f = 106 ∨ f = 107 ∨ f = 108) → pA hh q f = pA H q f := by
    intro q hq
    obtain ⟨⟨⟨a1, ⟨b1, b2, b3⟩, ⟨c1, c2, c3⟩, ⟨d1, d2, d3⟩, ⟨f1, f2, f3⟩⟩, ⟨z1, z5, z6, z7, z8⟩⟩, n0, n5, n6, n7, n8⟩ := hq
    have rq := bR q z1
    have lz := hE.1
    refine ⟨?_, (bI q z1 a1.2).1, ?_⟩
    · unfold PPm PP PZ
      rw [rq, rq, rq, rq, k34 q z1 a1.2, k34 _ z5 b2, k34 _ z6 c2, k34 _ z7 d2, k34 _ z8 f2, bL _ z5, bL _ z6, bL _ z7, bL _ z8, zhh]
      exact ⟨⟨⟨a1, ⟨b1, b2, b3⟩, ⟨c1, c2, c3⟩, ⟨d1, d2, d3⟩, ⟨f1, f2, f3⟩⟩, ⟨by omega, by omega, by omega, by omega, by omega⟩⟩, n0, n5, n6, n7, n8⟩
    · unfold pA
      rintro f (rfl | rfl | rfl | rfl)
      · rw [rq]; exact (bI _ z5 b2).2
      · rw [rq]; exact (bI _ z6 c2).2
      · rw [rq]; exact (bI _ z7 d2).2
      · rw [rq]; exact (bI _ z8 f2).2
  have e5 : hfR hh 605 (y + 1) = hfR H 605 (y + 1) := bR _ zy 605
  have hip : ∀ k, ip hh (y + 1) k = ip H (y + 1) k := by
    intro k
    unfold ip
    have k52 := g1.ipl.2.1
    rw [bR _ zy, bA _ (hK.lt (by omega)) (fun z => by rw [z] at k52; omega)]
  have s13 : ∀ f g, S1 H K f g → hfR H f 0 < hz H → S1 hh K3 f g := by
    intro f g hs hl
    obtain ⟨⟨s1, s2, s3⟩, s4⟩ := hs
    unfold S1
    rw [bR 0 g3, k34 _ hl s2, bL _ hl, (bI _ hl s2).2]
    exact ⟨⟨s1, s2, s3⟩, s4⟩
  have hSH : SHP hh K3 (y + 1) (x + 1) (fun q => if q = r then some s else rs q) n cm := by
    refine ⟨hS1.kr k3i k33 ?_, k3z, ?_, ?_, fun q hq => ?_, ?_, ?_, fun k hk hi => ?_, hsm3⟩
    · rw [e5]; exact (pp3 _ g6).1.1.1
    · rw [zhh]; exact Nat.lt_of_lt_of_le g3 hE.1
    · obtain ⟨⟨t1, t2, t3⟩, t4⟩ := g4
      refine ⟨⟨s13 _ _ t1 (t4 9001 (by decide)).2, s13 _ _ t2 (t4 9002 (by decide)).2, s13 _ _ t3 (t4 9003 (by decide)).2⟩, fun f hf => ?_⟩
      have h4 : 400 ≤ K (hfR H f 0) := by
        rcases hf with rfl | rfl | rfl
        · exact t1.1.2.1
        · exact t2.1.2.1
        · exact t3.1.2.1
      have := t4 f hf
      rw [bR 0 g3, k34 _ this.2 h4, zhh]
      exact ⟨this.1, Nat.lt_of_lt_of_le this.2 hE.1⟩
    · have er : rho hh (y + 1) q = va_up (haR H (hfR H 600 (y + 1))) r xx q := by
        unfold rho
        rw [bR _ zy, rr]
      rw [er]
      by_cases c : q = r
      · subst c
        rw [va_up_self]
        refine Or.inr ⟨s, if_pos rfl, by omega, k3x, ?_, hs, hq⟩
        rw [xR]
        exact ⟨by omega, k3a, aL⟩
      · rw [va_up_ne _ _ c]
        rcases g5 q hq with ⟨z1, z2⟩ | ⟨s', z1, z2, z3, z4, z5, z6⟩
        · exact Or.inl ⟨(if_neg c).trans z1, z2⟩
        · have lq : rho H (y + 1) q < hz H := hK.lt (by omega)
          have la2 : hfR H 301 (rho H (y + 1) q) < hz H := hK.lt (by rw [z4.2.1]; omega)
          refine Or.inr ⟨s', (if_neg c).trans z1, z2, (k3o _ q hq c (Or.inl z3)).trans z3, ?_, z5, z6⟩
          show AR hh K3 (hfR hh 301 (rho H (y + 1) q)) (300 + q) s'
          rw [bR _ lq]
          exact ⟨z4.1, (k3o _ q hq c (Or.inr z4.2.1)).trans z4.2.1, (bL _ la2).trans z4.2.2⟩
    · rw [e5]; exact (pp3 _ g6).1
    · rw [e5]
      unfold Pn
      rw [(pp3 _ g6).2.1, (pp3 _ g6).2.1]
      exact g7
    · rw [hip] at hi ⊢
      exact (pp3 _ (g8 k hk hi)).1
  obtain ⟨⟨m1, m2, m3, m4, m5, m6⟩, m7, m8, m9⟩ := hR.2.2.2.2.2.1
  have goal2 := gen (v := (nI s)) (V' := V3) (W' := W3) hmv3 hsm3 hk1 (fun kk2 hk2 => m_row (h := CU hh K3 V3 W3) hsm3.1 (fun z => absurd ⟨by rw [e]; exact inB_nI hr (by omega), h02.mpr q2, by rw [es]; exact g40 s hs⟩ z) (fun _ _ z => absurd z (by rw [es]; exact nI_pos (by omega))) (fun r' s' hr' e' q2' hs' es' => ?_))
  · rw [ecu] at goal2
    exact goal2
  · obtain rfl : r = r' := nIj (by omega) (by omega) (e.symm.trans e')
    obtain rfl : s = s' := nIj (by omega) (by omega) (es.symm.trans es')
    refine hk2 _ _ (RD.misc2 (H2 := hh) (K2 := K3) (V2 := V3) (W2 := W3) (I2 := upd I 700 0) (A2 := va_up (va_up (va_up A 701 (upd (A 701) r (nI s))) 702 (upd (A 702) r la)) 703 (va_cpy (fun _ => 0) (A 703) 0 (40 * r) 40)) (by2 := by') (tm2 := tm) (rs2 := fun q => if q = r then some s else rs q) hR.t1 hSH e5 (fun q hq => (pp3 q hq).2) (fun k hk => hip k) (fun s hs => ⟨?_, ?_⟩) (fun s hs => ⟨wo _ (by omega) (by omega), wo _ (by omega) (by omega)⟩) (fun k hk => if_neg (by omega)) (fun f hf => ?_) hR.2.1.2.2.2.2.1 hR.2.1.2.2.2.2.2 (fun q hq => ?_) ⟨⟨?_, ?_, ?_, ?_, ?_, ?_⟩, ?_, fun j hj => ?_, fun q hq s' hs' => ?_⟩).toX
    · rw [vo _ _ (by omega) (by omega), up2_nf (by decide)]
    · rw [vo _ _ (by omega) (by omega), up2_nf (by decide)]
    · rw [va_up_ne _ _ (by omega), va_up_ne _ _ (by omega), va_up_ne _ _ (by omega)]
    · rw [va_up_ne _ _ (by decide), va_up_ne _ _ (by decide), va_up_self]
      unfold upd
      by_cases c : q = r
      · rw [if_pos c]; exact Or.inr ⟨s, if_pos c, hs, rfl⟩
      · rw [if_neg c]
        rcases hri q hq with ⟨z1, z2⟩ | ⟨s', z1, z2⟩
        · exact Or.inl ⟨(if_neg c).trans z1, z2⟩
        · exact Or.inr ⟨s', (if_neg c).trans z1, z2⟩
    · rw [vo _ _ (by omega) (by omega), up2_nf (by decide)]; exact m1
    · rw [vo _ _ (by omega) (by omega), up2_nf (by decide)]; exact m2
    · rw [vo _ _ (by omega) (by omega), up2_nf (by decide)]; exact m3
    · rw [vo _ _ (by omega) (by omega), up2_nf (by decide)]; exact m4
    · rw [vo _ _ (by omega) (by omega), up2_eq]; rfl
    · rw [vo _ _ (by omega) (by omega), up2_nf (by decide)]; exact m6
    · rw [wo _ (by omega) (by omega), va_up_ne _ _ (by decide), va_up_ne _ _ (by decide), va_up_ne _ _ (by decide)]; exact m7
    · rw [wo _ (by omega) (by omega), va_up_ne _ _ (by decide), va_up_ne _ _ (by decide), va_up_ne _ _ (by decide)]; exact m8 j hj
    · have e703 : ∀ g : Nat → Int32, va_up (va_up (va_up A 701 (upd (A 701) r (nI s))) 702 (upd (A 702) r la)) 703 g 703 = g := fun g => va_up_self _ _ _
      have e702 : ∀ g : Nat → Int32, va_up (va_up (va_up A 701 (upd (A 701) r (nI s))) 702 (upd (A 702) r la)) 703 g 702 = upd (A 702) r la := fun g => by rw [va_up_ne _ _ (by decide), va_up_self]
      rw [e702, e703]
      by_cases c : q = r
      · subst c
        dsimp only at hs'
        rw [if_pos rfl] at hs'
        cases hs'
        rw [vx, wa, xI, aI]
        refine ⟨(if_pos rfl).symm, fun j hj => ?_⟩
        unfold va_cpy
        rw [if_pos (by omega)]
      · dsimp only at hs'
        rw [if_neg c] at hs'
        obtain ⟨t40, tl, tw⟩ := hR.row hq hs'
        rw [vo _ _ (by omega) (by omega), up2_nf (by decide), wo _ (by omega) (by omega)]
        refine ⟨?_, fun j hj => ?_⟩
        · unfold upd
          rw [if_neg c]; exact tl
        · unfold va_cpy
          rw [if_neg (by omega)]; exact tw j hj
end Q13
