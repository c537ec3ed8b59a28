/-! ===== the law's start: a new class and a new reference stand in the relation ===== -/
def St0 (h : hp) (f : Nat) (g : Nat → Int32) : Prop := (hfR h f 0 ≠ 0 ∧ hfR h f 0 < hz h) ∧ haL h (hfR h f 0) = 6 ∧ ∀ k, k < 6 → haI h (hfR h f 0) k = g k
theorem law_rel {h0 hc hm : hp} {Kc : Nat → Nat} {y x : Nat} (z0 : 0 < hz h0) (hy : hz h0 ≤ y + 1) (hI : INI (wobj h0 (y + 1)) hc Kc (y + 1)) (hx : hz hc ≤ x + 1) (hM : MNI (wobj hc (x + 1)) hm (x + 1)) (s1 : St0 h0 9001 isTo) (s2 : St0 h0 9002 szB) (s3 : St0 h0 9003 mkB) : INV (y + 1) (x + 1) 0 hm := by
  obtain ⟨iE, iP, iR, i24, iQ, i2, i5⟩ := hI
  obtain ⟨⟨k1, k2, k3, k4⟩, ⟨p1, p1z⟩, ⟨p2, p3⟩, ⟨p4, p4z, p4b⟩, p5, p6, p7, p8, p9, ⟨p10, p11⟩, p12⟩ := iP
  obtain ⟨mE, mS, mZ, mF, mz, m1⟩ := hM
  have E1 : EX h0 hc := EXn.new hy iE
  have E2 : EX hc hm := EXn.new hx mE
  have x1 : x + 1 < hz hm := mE.1
  have e12 := E2.1
  have e01 := E1.1
  obtain ⟨K, hK⟩ : ∃ K : Nat → Nat, ∀ z, K z = if hz hc ≤ z ∧ z < hz hm then 700 else if Kc z < 480 then Kc z else 500 := ⟨fun z => if hz hc ≤ z ∧ z < hz hm then 700 else if Kc z < 480 then Kc z else 500, fun _ => rfl⟩
  have a1 : ∀ z, Kc z < 480 → K z = Kc z := fun z q => by
    have := k3.lt q
    rw [hK, if_neg (by omega), if_pos q]
  have a2 : ∀ z, z < hz hc → 480 ≤ Kc z → K z = 500 := fun z q1 q2 => by rw [hK, if_neg (by omega), if_neg (by omega)]
  have a3 : ∀ z, hz hc ≤ z → z < hz hm → K z = 700 := fun z q1 q2 => by rw [hK, if_pos ⟨q1, q2⟩]
  have a4 : ∀ z, hz hm ≤ z → K z = 500 := fun z q => by
    have := k3 z (by omega)
    rw [hK, if_neg (by omega), if_neg (by omega)]
  have a5 : ∀ z, K z < 480 → Kc z < 480 ∧ K z = Kc z := fun z q => by
    by_cases c : Kc z < 480
    · exact ⟨c, a1 z c⟩
    · rw [hK, if_neg c] at q
      by_cases c2 : hz hc ≤ z ∧ z < hz hm
      · rw [if_pos c2] at q; omega
      · rw [if_neg c2] at q; omega
  have kI : KI K := fun z z' q1 q2 => by
    have b1 := a5 z q1
    have b2 := a5 z' (by omega)
    exact k1 z z' b1.1 (by omega)
  have kz : KZ hc K := fun z q => by
    by_cases c : z < hz hm
    · rw [a3 z q c]; decide
    · rw [a4 z (by omega)]; decide
  have lS : ∀ {z s : Nat}, SS hc Kc z s → SS hc K z s := fun hs => by
    obtain ⟨⟨q1, q2, q3⟩, ⟨q4, q5, q6⟩, ⟨q7, q8, q9⟩⟩ := hs
    exact ⟨⟨q1, (a1 _ (by omega)).trans q2, q3⟩, ⟨q4, (a1 _ (by omega)).trans q5, q6⟩, ⟨q7, (a1 _ (by omega)).trans q8, q9⟩⟩
  have lA : ∀ {a s m : Nat}, s < 480 → AR hc Kc a s m → AR hc K a s m := fun h4 hs => ⟨hs.1, (a1 _ (by rw [hs.2.1]; exact h4)).trans hs.2.1, hs.2.2⟩
  have lP : ∀ {p q : Nat}, PQ hc Kc p q → PQ hc K p q := fun hs => by
    obtain ⟨⟨q1, q2, q3⟩, b, c, d, e, f⟩ := hs
    exact ⟨⟨q1, (a1 _ (by omega)).trans q2, q3⟩, lA (by omega) b, lA (by omega) c, lA (by omega) d, lA (by omega) e, lA (by omega) f⟩
  have lR : ∀ {q r : Nat}, RW1 hc Kc q r → RW1 hc K q r := fun hs => by
    obtain ⟨q1, q2, q3, q4⟩ := hs
    exact ⟨q1, (a1 _ (by omega)).trans q2, lA (by omega) q3, q4⟩
  have csc : CS hc K (y + 1) := ⟨⟨kI, (a1 _ (by omega)).trans k2⟩, lP p1, lS p2, ⟨⟨p4.1.1, (a1 _ (by rw [p4.1.2]; decide)).trans p4.1.2⟩, lA (by decide) p4.2.1, lP p4.2.2⟩, ⟨lA (by decide) p5, fun i hi => lS (i24 i hi).1⟩, ⟨lA (by decide) p6, fun i hi => lP (iQ i hi).1⟩, ⟨lA (by decide) p7, fun i hi => lS (i2 i hi).1⟩, lS p8, ⟨⟨p9.1.1, (a1 _ (by rw [p9.1.2]; decide)).trans p9.1.2⟩, lS p9.2.1, lA (by decide) p9.2.2.1, lA (by decide) p9.2.2.2.1, lA (by decide) p9.2.2.2.2⟩, ⟨⟨p10.1.1, (a1 _ (by rw [p10.1.2]; decide)).trans p10.1.2⟩, lA (by decide) p10.2⟩, ⟨lA (by decide) p12, fun r hr => lR (iR r hr).1⟩⟩
  have cs : CS hm K (y + 1) := csc.ex kz E2
  have ly : y + 1 < hz hc := k3.lt (by rw [k2]; decide)
  have ry := (E2.2 (y + 1) ly).2.1
  obtain ⟨V, W, hVW⟩ : ∃ V W : Nat → Nat → Int32, ∀ z, K z < 400 → (∀ f, hfI hm f z = V f (K z)) ∧ haI hm z = W (K z) := by
    classical
    refine ⟨fun f s => if q : ∃ z, K z = s then hfI hm f q.choose else 0, fun s => if q : ∃ z, K z = s then haI hm q.choose else zf, fun z hz' => ?_⟩
    have q : ∃ w, K w = K z := ⟨z, rfl⟩
    have e : q.choose = z := (kI z _ (by omega) q.choose_spec.symm).symm
    constructor
    · intro f
      show _ = (if q : ∃ w, K w = K z then hfI hm f q.choose else 0)
      rw [dif_pos q, e]
    · show _ = (if q : ∃ w, K w = K z then haI hm q.choose else zf)
      rw [dif_pos q, e]
  have A0 : ∀ f ∈ MF, f ≠ 701 → ∀ j, haI hm (hfR hm f (x + 1)) j = 0 := fun f hf hne j => by rw [mz f hf hne]
  -- a cell of the class, told by V and W
  have cV : ∀ {z s : Nat}, Kc z = s → s < 400 → ∀ f, V f s = hfI hc f z := fun {z s} e h4 f => by
    have q := (hVW z (by rw [a1 _ (by omega), e]; exact h4)).1 f
    rw [a1 _ (by omega), e, (E2.2 z (k3.lt (by omega))).1] at q
    exact q.symm
  have cW : ∀ {z s : Nat}, Kc z = s → s < 400 → W s = haI hc z := fun {z s} e h4 => by
    have q := (hVW z (by rw [a1 _ (by omega), e]; exact h4)).2
    rw [a1 _ (by omega), e, (E2.2 z (k3.lt (by omega))).2.2.1] at q
    exact q.symm
  have eS : ∀ {z s : Nat} {a : Nat → Int32}, SS hc Kc z s → ZS hc z → (∀ j, a j = 0) → eqS V W s a := by
    intro z s a hs hzs ha
    obtain ⟨⟨q1, q2, q3⟩, ⟨q4, q5, q6⟩, ⟨q7, q8, q9⟩⟩ := hs
    obtain ⟨w1, w2, w3, w4⟩ := hzs
    refine ⟨fun j _ => ?_, fun c _ => ?_, ?_, ?_⟩
    · rw [cW q5 (by omega), w3, ha]
    · rw [cW q8 (by omega), w4, ha]
    · rw [cV q2 (by omega), w1, ha]
    · rw [cV q2 (by omega), w2, ha]
  have ws0 : ∀ a : Nat → Int32, (∀ j, a j = 0) → WS 0 0 (30 * 0) a := fun a ha => ⟨fun j _ => ⟨0, by omega, ha j, fun _ => rfl⟩, fun c _ => ⟨0, by omega, ha _, fun _ => rfl⟩, 0, by omega, ha _⟩
  have st1 : ∀ f g, St0 h0 f g → S1 hm K f g ∧ K (hfR hm f 0) = 500 := by
    intro f g hs
    obtain ⟨⟨b1, b2⟩, b3, b4⟩ := hs
    have r1 : hfR hm f 0 = hfR h0 f 0 := ((E2.2 0 (by omega)).2.1 f).trans ((E1.2 0 z0).2.1 f)
    have q1 := E1.2 _ b2
    have q2 := E2.2 (hfR h0 f 0) (by omega)
    have ek : K (hfR h0 f 0) = 500 := a2 _ (by omega) (by rw [i5 _ (show hfR h0 f 0 < y + 1 + 1 by omega) (by omega)]; decide)
    unfold S1
    rw [r1]
    exact ⟨⟨⟨b1, by omega, (q2.2.2.2.1.trans q1.2.2.2.1).trans b3⟩, fun k hk => by rw [q2.2.2.1, q1.2.2.1]; exact b4 k hk⟩, ek⟩
  have t1 := st1 _ _ s1
  have t2 := st1 _ _ s2
  have t3 := st1 _ _ s3
  have stm : STm hm K := ⟨⟨t1.1, t2.1, t3.1⟩, fun f hf => by
    rcases hf with rfl | rfl | rfl
    · exact t1.2
    · exact t2.2
    · exact t3.2⟩
  have zp : ∀ {p q : Nat}, PQ hc Kc p q → ZP hc p → ZP hm p := by
    intro p q hp hz'
    have q4 := hp.1.2.2
    have e := E2.2 p (k3.lt (by rw [hp.1.2.1]; omega))
    obtain ⟨⟨z0, z1, z2, z3, z4⟩, z6, z7⟩ := hz'
    unfold ZP pI pA
    rw [e.1, e.1, e.1, e.1, e.1, e.2.1, e.2.1, (E2.2 _ (k3.lt (by rw [(hp.kf (f := 106) (by decide)).1]; omega))).2.2.1, (E2.2 _ (k3.lt (by rw [(hp.kf (f := 107) (by decide)).1]; omega))).2.2.1]
    exact ⟨⟨z0, z1, z2, z3, z4⟩, z6, z7⟩
  have se : ∀ {p : Nat}, ZP hm p → SET hm p := by
    intro p hz' m em m8 j hj
    rw [hz'.1.2.2.1] at em
    obtain rfl : m = 0 := nIj (by omega) (by omega) (em.symm.trans (show (0 : Int32) = nI 0 from rfl))
    rw [hz'.2.2]
    rfl
  have l600 := k3.lt (z := hfR hc 600 (y + 1)) (by rw [p12.2.1]; decide)
  have l609 := k3.lt (z := hfR hc 609 (y + 1)) (by rw [p6.2.1]; decide)
  have ipe : ∀ k, ip hm (y + 1) k = ip hc (y + 1) k := fun k => by
    unfold ip
    rw [ry, (E2.2 _ l609).2.2.2.2]
  have z6 : ZP hm (hfR hm 604 (y + 1)) := by rw [ry]; exact zp p1 p1z
  have z9 : ∀ k, k < 2 → ZP hm (ip hm (y + 1) k) := fun k hk => by rw [ipe]; exact zp (iQ k hk).1 (iQ k hk).2
  obtain ⟨⟨j0, j1, j2, j3, j4⟩, n6, n7⟩ := id z6
  have pn : Pn hm (hfR hm 604 (y + 1)) 0 0 := ⟨⟨j2, by decide⟩, ⟨j4, by decide⟩⟩
  have shm : SHm hm K (x + 1) := ⟨mS, ⟨a3 _ hx x1, x1⟩, fun f hf => by
    have q : x + 1 + 1 ≤ hfR hm f (x + 1) := (mF f hf).1
    exact ⟨a3 _ (by omega) (mF f hf).2, (mF f hf).2⟩⟩
  have vI : ∀ f, V f 1 = 0 := fun f => (cV k2 (by decide) f).trans (k4 f)
  refine ⟨hm, K, V, W, fun k => hfI hm k (x + 1), fun f => haI hm (hfR hm f (x + 1)), (CU_re hVW).symm, ⟨fun _ => rfl, fun _ _ => rfl⟩, 0, 0, 0, 0, 0, 0, fun _ => none, ?_⟩
  refine ⟨⟨cs, stm, pn, shm, se z6, fun k hk => se (z9 k hk)⟩, ?_, ?_, ?_, ?_, ?_, ?_, ?_⟩
  · exact ⟨⟨mZ _, by decide⟩, ⟨mZ _, by decide⟩, ⟨mZ _, by decide⟩, ⟨mZ _, by decide⟩, ⟨mZ _, by decide⟩, ⟨mZ _, by decide⟩⟩
  · exact fun r hr => Or.inl ⟨rfl, m1 r hr⟩
  · refine ⟨⟨?_, ?_, ?_⟩, fun j hj => ?_, fun c hc' => absurd hc' (Nat.not_lt_zero _)⟩
    · rw [j3]; exact (mZ _).symm
    · rw [j0]; exact (mZ _).symm
    · rw [j1]; exact (mZ _).symm
    · rw [n6]; exact (A0 712 (by decide) (by decide) j).symm
  · exact ⟨eS p2 p3 (A0 715 (by decide) (by decide)), fun i hi => eS (i24 i hi).1 (i24 i hi).2 (fun j => A0 729 (by decide) (by decide) _)⟩
  · refine ⟨⟨?_, ?_, ?_, ?_, ?_, ?_⟩, ?_, fun j hj => absurd hj (Nat.not_lt_zero _), fun r hr => ?_, fun r hr s e => by cases e⟩
    · rw [vI]; exact (mZ _).symm
    · rw [vI]; exact (mZ _).symm
    · rw [cV p4.1.2 (by decide), p4b]; exact (mZ _).symm
    · rw [vI]; exact (mZ _).symm
    · rw [vI]; exact (mZ _).symm
    · rw [cV p10.1.2 (by decide), p11]; exact (mZ _).symm
    · rw [cW p4.2.1.2.1 (by decide), p4z]; exact (mz 705 (by decide) (by decide)).symm
    · rw [cV (iR r hr).1.2.1 (by omega), (iR r hr).2]; exact (m1 r hr).symm
  · exact fun k hk => ⟨fun _ => (z9 k hk).1.2.2.1, fun hi => absurd (A0 731 (by decide) (by decide) k) hi⟩
  · exact ⟨ws0 _ (A0 715 (by decide) (by decide)), fun k hk => absurd hk (Nat.not_lt_zero _), fun hn => absurd hn (Nat.not_lt_zero _), ⟨0, by omega, mZ _⟩, fun c hc' => absurd hc' (Nat.not_lt_zero _)⟩
