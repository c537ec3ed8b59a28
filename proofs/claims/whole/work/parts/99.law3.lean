/-! ===== the law's start: a new class and a new reference stand in the relation ===== -/
def St0 (h : hp) (f : Nat) (g : Nat → Int32) : Prop := (hfR h f 0 ≠ 0 ∧ hfR h f 0 < hz h) ∧ haL h (hfR h f 0) = 6 ∧ ∀ k, k < 6 → haI h (hfR h f 0) k = g k
theorem law_rel {h0 hc hm : hp} {Kc : Nat → Nat} {y x : Nat} (z0 : 0 < hz h0) (hy : hz h0 ≤ y + 1) (hI : INI (wobj h0 (y + 1)) hc Kc (y + 1)) (hx : hz hc ≤ x + 1) (hM : MNI (wobj hc (x + 1)) hm (x + 1)) (s1 : St0 h0 9001 isTo) (s2 : St0 h0 9002 szB) (s3 : St0 h0 9003 mkB) : INV (y + 1) (x + 1) 0 hm := by
  obtain ⟨iE, iP, i24, i2, i5⟩ := hI
  obtain ⟨⟨k1, k2, k3, k4⟩, p1, ⟨p2, p3⟩, ⟨p4, p4z⟩, p5, p6, p7, p8, p9, ⟨p10, p11⟩, p12, p13, p14⟩ := iP
  obtain ⟨mE, mS, mZ, mF, mz, m1⟩ := hM
  have E1 : EX h0 hc := EXn.new hy iE
  have E2 : EX hc hm := EXn.new hx mE
  have x1 : x + 1 < hz hm := mE.1
  have e12 := E2.1
  have e01 := E1.1
  obtain ⟨K, hK⟩ : ∃ K : Nat → Nat, ∀ z, K z = if hz hc ≤ z ∧ z < hz hm then 700 else if Kc z < 400 then Kc z else 500 := ⟨fun z => if hz hc ≤ z ∧ z < hz hm then 700 else if Kc z < 400 then Kc z else 500, fun _ => rfl⟩
  have a1 : ∀ z, Kc z < 400 → K z = Kc z := fun z q => by
    have := k3.lt q
    rw [hK, if_neg (by omega), if_pos q]
  have a2 : ∀ z, z < hz hc → 400 ≤ Kc z → K z = 500 := fun z q1 q2 => by rw [hK, if_neg (by omega), if_neg (by omega)]
  have a3 : ∀ z, hz hc ≤ z → z < hz hm → K z = 700 := fun z q1 q2 => by rw [hK, if_pos ⟨q1, q2⟩]
  have a4 : ∀ z, hz hm ≤ z → K z = 500 := fun z q => by
    have := k3 z (by omega)
    rw [hK, if_neg (by omega), if_neg (by omega)]
  have a5 : ∀ z, K z < 400 → Kc z < 400 ∧ K z = Kc z := fun z q => by
    by_cases c : Kc z < 400
    · exact ⟨c, a1 z c⟩
    · rw [hK, if_neg c] at q
      by_cases c2 : hz hc ≤ z ∧ z < hz hm
      · rw [if_pos c2] at q; omega
      · rw [if_neg c2] at q; omega
  have kI : KI K := fun z z' q1 q2 => by
    have b1 := a5 z q1
    have b2 := a5 z' (by omega)
    exact k1 z z' b1.1 (by omega)
  have kz : KZ hc K := fun z q => by
    by_cases c : z < hz hm
    · rw [a3 z q c]; decide
    · rw [a4 z (by omega)]; decide
  have kzm : KZ hm K := fun z q => by rw [a4 z q]; decide
  have lS : ∀ {z s : Nat}, SS hc Kc z s → SS hc K z s := fun hs => by
    obtain ⟨⟨q1, q2, q3⟩, ⟨q4, q5, q6⟩, ⟨q7, q8, q9⟩⟩ := hs
    exact ⟨⟨q1, (a1 _ (by omega)).trans q2, q3⟩, ⟨q4, (a1 _ (by omega)).trans q5, q6⟩, ⟨q7, (a1 _ (by omega)).trans q8, q9⟩⟩
  have lA : ∀ {a s m : Nat}, s < 400 → AR hc Kc a s m → AR hc K a s m := fun h4 hs => ⟨hs.1, (a1 _ (by rw [hs.2.1]; exact h4)).trans hs.2.1, hs.2.2⟩
  have pp : PPm hc K (hfR hc 605 (y + 1)) := by
    obtain ⟨⟨⟨q1, ⟨b1, b2, b3⟩, ⟨c1, c2, c3⟩, ⟨d1, d2, d3⟩, ⟨f1, f2, f3⟩⟩, pz⟩, -, -⟩ := p1
    obtain ⟨z1, z5, z6, z7, z8⟩ := id pz
    have t1 := a2 _ z1 q1.2
    have t5 := a2 _ z5 b2
    have t6 := a2 _ z6 c2
    have t7 := a2 _ z7 d2
    have t8 := a2 _ z8 f2
    exact ⟨⟨⟨⟨q1.1, by omega⟩, ⟨b1, by omega, b3⟩, ⟨c1, by omega, c3⟩, ⟨d1, by omega, d3⟩, ⟨f1, by omega, f3⟩⟩, pz⟩, by omega, by omega, by omega, by omega, by omega⟩
  have csc : CS hc K (y + 1) := ⟨⟨kI, (a1 _ (by omega)).trans k2⟩, pp.1.1, lS p2, lA (by decide) p4, ⟨lA (by decide) p5, fun i hi => lS (i24 i hi).1⟩, lA (by decide) p6, ⟨lA (by decide) p7, fun i hi => lS (i2 i hi).1⟩, lS p8, ⟨⟨p9.1.1, (a1 _ (by rw [p9.1.2]; decide)).trans p9.1.2⟩, lS p9.2.1, lA (by decide) p9.2.2.1, lA (by decide) p9.2.2.2.1, lA (by decide) p9.2.2.2.2⟩, ⟨⟨p10.1.1, (a1 _ (by rw [p10.1.2]; decide)).trans p10.1.2⟩, lA (by decide) p10.2⟩, lA (by decide) p12⟩
  have cs : CS hm K (y + 1) := csc.ex kz pp.1.2 E2
  have ly : y + 1 < hz hc := k3.lt (by rw [k2]; decide)
  have ry := (E2.2 (y + 1) ly).2.1
  obtain ⟨V, W, hVW⟩ : ∃ V W : Nat → Nat → Int32, ∀ z, K z < 400 → (∀ f, hfI hm f z = V f (K z)) ∧ haI hm z = W (K z) := by
    classical
    refine ⟨fun f s => if q : ∃ z, K z = s then hfI hm f q.choose else 0, fun s => if q : ∃ z, K z = s then haI hm q.choose else zf, fun z hz' => ?_⟩
    have q : ∃ w, K w = K z := ⟨z, rfl⟩
    have e : q.choose = z := (kI z _ hz' q.choose_spec.symm).symm
    constructor
    · intro f
      show _ = (if q : ∃ w, K w = K z then hfI hm f q.choose else 0)
      rw [dif_pos q, e]
    · show _ = (if q : ∃ w, K w = K z then haI hm q.choose else zf)
      rw [dif_pos q, e]
  have A0 : ∀ f ∈ MF, f ≠ 701 → ∀ j, haI hm (hfR hm f (x + 1)) j = 0 := fun f hf hne j => by rw [mz f hf hne]
  have eS : ∀ {z s : Nat} {a : Nat → Int32}, SS hc Kc z s → ZS hc z → (∀ j, a j = 0) → eqS V W s a := by
    intro z s a hs hzs ha
    obtain ⟨⟨q1, q2, q3⟩, ⟨q4, q5, q6⟩, ⟨q7, q8, q9⟩⟩ := hs
    obtain ⟨w1, w2, w3, w4⟩ := hzs
    have lz := k3.lt (z := z) (by omega)
    have l5 := k3.lt (z := hfR hc 500 z) (by omega)
    have l6 := k3.lt (z := hfR hc 501 z) (by omega)
    have u0 : K z = 10 + s := (a1 z (by omega)).trans q2
    have u5 : K (hfR hc 500 z) = 100 + s := (a1 _ (by omega)).trans q5
    have u6 : K (hfR hc 501 z) = 200 + s := (a1 _ (by omega)).trans q8
    have v0 := hVW z (by omega)
    have v5 := hVW (hfR hc 500 z) (by omega)
    have v6 := hVW (hfR hc 501 z) (by omega)
    refine ⟨fun j _ => ?_, fun c _ => ?_, ?_, ?_⟩
    · rw [← u5, ← v5.2, (E2.2 _ l5).2.2.1, w3, ha]
    · rw [← u6, ← v6.2, (E2.2 _ l6).2.2.1, w4, ha]
    · rw [← u0, ← v0.1, (E2.2 z lz).1, w1, ha]
    · rw [← u0, ← v0.1, (E2.2 z lz).1, w2, ha]
  have ws0 : ∀ a : Nat → Int32, (∀ j, a j = 0) → WS 0 0 (30 * 0) a := fun a ha => ⟨fun j _ => ⟨0, by omega, ha j, fun _ => rfl⟩, fun c _ => ⟨0, by omega, ha _, fun _ => rfl⟩, 0, by omega, ha _⟩
  have st1 : ∀ f g, St0 h0 f g → S1 hm K f g ∧ K (hfR hm f 0) ≠ 700 ∧ hfR hm f 0 < hz hm := by
    intro f g hs
    obtain ⟨⟨b1, b2⟩, b3, b4⟩ := hs
    have r1 : hfR hm f 0 = hfR h0 f 0 := ((E2.2 0 (by omega)).2.1 f).trans ((E1.2 0 z0).2.1 f)
    have q1 := E1.2 _ b2
    have q2 := E2.2 (hfR h0 f 0) (by omega)
    have ek : K (hfR h0 f 0) = 500 := a2 _ (by omega) (by rw [i5 _ (show hfR h0 f 0 < y + 1 + 1 by omega) (by omega)]; decide)
    unfold S1
    rw [r1]
    exact ⟨⟨⟨b1, by omega, (q2.2.2.2.1.trans q1.2.2.2.1).trans b3⟩, fun k hk => by rw [q2.2.2.1, q1.2.2.1]; exact b4 k hk⟩, by omega, by omega⟩
  have t1 := st1 _ _ s1
  have t2 := st1 _ _ s2
  have t3 := st1 _ _ s3
  have stm : STm hm K := ⟨⟨t1.1, t2.1, t3.1⟩, fun f hf => by
    rcases hf with rfl | rfl | rfl
    · exact t1.2
    · exact t2.2
    · exact t3.2⟩
  have l600 := k3.lt (z := hfR hc 600 (y + 1)) (by rw [p12.2.1]; decide)
  have l610 := k3.lt (z := hfR hc 610 (y + 1)) (by rw [p6.2.1]; decide)
  have l601 := k3.lt (z := hfR hc 601 (y + 1)) (by rw [p4.2.1]; decide)
  have l614 := k3.lt (z := hfR hc 614 (y + 1)) (by rw [p10.1.2]; decide)
  have ip0 : ∀ k, ip hm (y + 1) k = 0 := fun k => by
    unfold ip
    rw [ry, (E2.2 _ l610).2.2.2.2, p14]
  have ppm : PPm hm K (hfR hm 605 (y + 1)) := by rw [ry]; exact pp.ex E2
  obtain ⟨⟨-, pz⟩, ⟨j0, j1, j2, j3, j4⟩, ⟨n6, n7, n8⟩⟩ := p1
  have ej : ∀ f, pI hm (hfR hm 605 (y + 1)) f = pI hc (hfR hc 605 (y + 1)) f := fun f => by
    rw [ry]; exact (E2.2 _ pz.1).1 f
  have pn : Pn hm (hfR hm 605 (y + 1)) 0 0 := by
    unfold Pn
    rw [ej, ej]
    exact ⟨⟨j2, by decide⟩, ⟨j4, by decide⟩⟩
  have shm : SHm hm K (x + 1) := ⟨mS, ⟨a3 _ hx x1, x1⟩, fun f hf => by
    have q : x + 1 + 1 ≤ hfR hm f (x + 1) := (mF f hf).1
    exact ⟨a3 _ (by omega) (mF f hf).2, (mF f hf).2⟩⟩
  have vI : ∀ f, V f 1 = 0 := fun f => by
    have := (hVW (y + 1) (by rw [a1 _ (by omega), k2]; decide)).1 f
    rw [a1 _ (by omega), k2] at this
    rw [← this, (E2.2 _ ly).1]; exact k4 f
  refine ⟨hm, K, V, W, fun k => hfI hm k (x + 1), fun f => haI hm (hfR hm f (x + 1)), (CU_re hVW).symm, ⟨fun _ => rfl, fun _ _ => rfl⟩, 0, 0, 0, 0, 0, 0, fun _ => none, ?_⟩
  refine ⟨⟨cs, a4, by omega, stm, fun r hr => Or.inl ⟨rfl, ?_⟩, ppm, pn, fun k hk hi => absurd (ip0 k) hi, shm⟩, ?_, ?_, ?_, ?_, ?_, ?_, ?_⟩
  · unfold rho
    rw [ry, (E2.2 _ l600).2.2.2.2, p13]
  · exact ⟨⟨mZ _, by decide⟩, ⟨mZ _, by decide⟩, ⟨mZ _, by decide⟩, ⟨mZ _, by decide⟩, ⟨mZ _, by decide⟩, ⟨mZ _, by decide⟩⟩
  · exact fun r hr => Or.inl ⟨rfl, m1 r hr⟩
  · refine ⟨⟨?_, ?_, ?_⟩, fun j hj => ?_, fun c hc' => absurd hc' (Nat.not_lt_zero _)⟩
    · rw [ej, j3]; exact (mZ _).symm
    · rw [ej, j0]; exact (mZ _).symm
    · rw [ej, j1]; exact (mZ _).symm
    · refine Eq.trans ?_ (A0 712 (by decide) (by decide) j).symm
      unfold pA
      rw [ry, (E2.2 _ pz.1).2.1, (E2.2 _ pz.2.2.1).2.2.1]
      exact congrFun n6 j
  · exact ⟨eS p2 p3 (A0 715 (by decide) (by decide)), fun i hi => eS (i24 i hi).1 (i24 i hi).2 (fun j => A0 729 (by decide) (by decide) _)⟩
  · refine ⟨⟨?_, ?_, ?_, ?_, ?_, ?_⟩, ?_, fun j hj => absurd hj (Nat.not_lt_zero _), fun r hr s e => by cases e⟩
    · rw [vI]; exact (mZ _).symm
    · rw [vI]; exact (mZ _).symm
    · rw [vI]; exact (mZ _).symm
    · rw [vI]; exact (mZ _).symm
    · rw [vI]; exact (mZ _).symm
    · have e3 := a1 (hfR hc 614 (y + 1)) (by rw [p10.1.2]; decide)
      have v3 := (hVW (hfR hc 614 (y + 1)) (by rw [e3, p10.1.2]; decide)).1 1
      rw [e3, p10.1.2, (E2.2 _ l614).1, p11] at v3
      exact v3.symm.trans (mZ _).symm
    · have e3 := a1 (hfR hc 601 (y + 1)) (by rw [p4.2.1]; decide)
      have v3 := (hVW (hfR hc 601 (y + 1)) (by rw [e3, p4.2.1]; decide)).2
      rw [e3, p4.2.1, (E2.2 _ l601).2.2.1, p4z] at v3
      exact v3.symm.trans (mz 705 (by decide) (by decide)).symm
  · exact fun k hk => ⟨⟨fun _ => ip0 k, fun _ => A0 731 (by decide) (by decide) k⟩, fun hi => absurd (ip0 k) hi⟩
  · exact ⟨ws0 _ (A0 715 (by decide) (by decide)), fun k hk => absurd hk (Nat.not_lt_zero _), fun hn => absurd hn (Nat.not_lt_zero _), ⟨0, by omega, mZ _⟩, fun c hc' => absurd hc' (Nat.not_lt_zero _)⟩
