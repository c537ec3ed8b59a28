/-! ===== the class: its constructor ===== -/
theorem wfI_id {h : hp} {f x : Nat} {v : Int32} (e : hfI h f x = v) : wfI h f x v = h := by
  unfold wfI
  refine Prod.ext ?_ rfl
  funext f' x'
  show up2 h.1 f x v f' x' = h.1 f' x'
  unfold up2
  by_cases c1 : f' = f
  · rw [if_pos c1]
    by_cases c2 : x' = x
    · rw [if_pos c2, c1, c2]; exact e.symm
    · rw [if_neg c2]
  · rw [if_neg c1]
theorem wmk {Wm : Nx} {pc cu su cu' su' : Nat} {L L' : Lo} {S S' : List pv} {h h' : hp} (hk : Wm pc L' S' h' cu' su') (e1 : L = L') (e2 : S = S') (e3 : h = h') (e4 : cu = cu') (e5 : su = su') : Wm pc L S h cu su := by subst e1; subst e2; subst e3; subst e4; subst e5; exact hk
/-- what stands of a new castle but what its arrays hold -/
def PH1 (h : hp) (K : Nat → Nat) (x : Nat) : Prop := (KI K ∧ K x = 1 ∧ KZ h K ∧ ZX h x) ∧ (PQ h K (hfR h 604 x) 0 ∧ ZP h (hfR h 604 x)) ∧ (SS h K (hfR h 605 x) 0 ∧ ZS h (hfR h 605 x)) ∧ (RDR h K (hfR h 601 x) ∧ haI h (hfR h 201 (hfR h 601 x)) = zf ∧ hfI h 202 (hfR h 601 x) = 0) ∧ AR h K (hfR h 606 x) 51 24 ∧ AR h K (hfR h 609 x) 52 2 ∧ AR h K (hfR h 610 x) 53 2 ∧ SS h K (hfR h 611 x) 27 ∧ SE h K (hfR h 612 x) ∧ (AK h K (hfR h 613 x) ∧ hfI h 1 (hfR h 613 x) = 0) ∧ AR h K (hfR h 600 x) 50 8
theorem PH1.gx {h h' : hp} {K K' : Nat → Nat} {x : Nat} {A : Nat → Prop} (p : PH1 h K x) (hk : KI K') (hkz : KZ h' K') (hx : x < hz h) (hzx : ZX h' x) (g : GX h K h' K' x A) (hf : ∀ f, hfR h' f x = hfR h f x) : PH1 h' K' x := by
  obtain ⟨⟨k1, k2, k3, k4⟩, ⟨p1, p1z⟩, ⟨p2, p3⟩, ⟨p4, p4a, p4b⟩, p5, p6, p7, p8, p9, ⟨p10, p11⟩, p12⟩ := p
  have ak := p10.gx k3 k2 g
  have rd := p4.gx k3 k2 g
  unfold PH1
  rw [hf, hf, hf, hf, hf, hf, hf, hf, hf, hf]
  exact ⟨⟨hk, (g.2.1 x hx).trans k2, hkz, hzx⟩, ⟨p1.gx k3 k2 g, p1z.gx p1 k3 k2 g⟩, ⟨p2.gx k3 k2 g, p3.gx p2 k3 k2 g⟩, ⟨rd.1, rd.2.2.trans p4a, (rd.2.1 202).trans p4b⟩, p5.gx (by omega) (by omega) k3 k2 g, p6.gx (by omega) (by omega) k3 k2 g, p7.gx (by omega) (by omega) k3 k2 g, p8.gx k3 k2 g, p9.gx k3 k2 g, ⟨ak.1, (ak.2 1).trans p11⟩, p12.gx (by omega) (by omega) k3 k2 g⟩
/-- a castle under way: i1 rows, i2 States ahead, i3 images' plans, i4 images' States are there -/
def IV (h : hp) (K0 : Nat → Nat) (x : Nat) (U : Nat → Prop) (i1 i2 i3 i4 : Nat) (hc : hp) (Kc : Nat → Nat) : Prop :=
  GX h K0 hc Kc x (fun z => hz h ≤ z) ∧ KK (hz hc) Kc U ∧ PH1 hc Kc x ∧ (∀ f, f = 600 ∨ f = 606 ∨ f = 609 ∨ f = 610 → hz h ≤ hfR hc f x) ∧ (∀ j, j < i1 → RW1 hc Kc (haR hc (hfR hc 600 x) j) j ∧ hfI hc 302 (haR hc (hfR hc 600 x) j) = -1) ∧ (∀ j, j < i2 → SS hc Kc (haR hc (hfR hc 606 x) j) (1 + j) ∧ ZS hc (haR hc (hfR hc 606 x) j)) ∧ (∀ j, j < i3 → PQ hc Kc (haR hc (hfR hc 609 x) j) (1 + j) ∧ ZP hc (haR hc (hfR hc 609 x) j)) ∧ ∀ j, j < i4 → SS hc Kc (haR hc (hfR hc 610 x) j) (25 + j) ∧ ZS hc (haR hc (hfR hc 610 x) j)
section N8
variable {h hc hn : hp} {K0 Kc Kn : Nat → Nat} {x i1 i2 i3 i4 : Nat} {U U' : Nat → Prop}
/-- a thing comes into the array A0, at i -/
theorem IV.step {A0 i z : Nat} (hI : IV h K0 x U i1 i2 i3 i4 hc Kc) (hx : x < hz h) (hA : hz h ≤ A0) (g : GX hc Kc hn Kn x (fun w => w = A0)) (hf : ∀ f, hfR hn f x = hfR hc f x) (zx : ZX hn x) (kn : KK (hz hn) Kn U') (hr : haR hn A0 = va_up (haR hc A0) i z) (q1 : A0 = hfR hc 600 x → i1 ≤ i) (q2 : A0 = hfR hc 606 x → i2 ≤ i) (q3 : A0 = hfR hc 609 x → i3 ≤ i) (q4 : A0 = hfR hc 610 x → i4 ≤ i) : IV h K0 x U' i1 i2 i3 i4 hn Kn := by
  obtain ⟨y1, y2, y3, y4, y5, y6, y7, y8⟩ := hI
  have xc : x < hz hc := Nat.lt_of_lt_of_le hx y1.1
  have kx : Kc x = 1 := y3.1.2.1
  have kz : KZ hc Kc := y3.1.2.2.1
  have sm : ∀ B s m, AR hc Kc B s m → s < 480 → ∀ n, (A0 = B → n ≤ i) → ∀ j, j < n → haR hn B j = haR hc B j := by
    intro B s m hB hs n hq j hj
    by_cases c : A0 = B
    · rw [← c, hr, va_up_ne _ _ (by have := hq c; omega)]
    · rw [g.2.2.2 B (kz.lt (by rw [hB.2.1]; exact hs)) (fun e => c e.symm)]
  have b1 := y3.2.2.2.2.2.2.2.2.2.2
  have b2 := y3.2.2.2.2.1
  have b3 := y3.2.2.2.2.2.1
  have b4 := y3.2.2.2.2.2.2.1
  refine ⟨y1.tr (g.mono (fun w e => by rw [e]; exact hA)), kn, y3.gx kn.1 (kn.z (Nat.le_refl _)) xc zx g hf, fun f hq => ?_, fun j hj => ?_, fun j hj => ?_, fun j hj => ?_, fun j hj => ?_⟩
  · rw [hf]; exact y4 f hq
  · rw [hf, sm _ _ _ b1 (by omega) i1 q1 j hj]
    have r := (y5 j hj).1.gx kz kx g
    exact ⟨r.1, (r.2 302).trans (y5 j hj).2⟩
  · rw [hf, sm _ _ _ b2 (by omega) i2 q2 j hj]
    exact ⟨(y6 j hj).1.gx kz kx g, (y6 j hj).2.gx (y6 j hj).1 kz kx g⟩
  · rw [hf, sm _ _ _ b3 (by omega) i3 q3 j hj]
    exact ⟨(y7 j hj).1.gx kz kx g, (y7 j hj).2.gx (y7 j hj).1 kz kx g⟩
  · rw [hf, sm _ _ _ b4 (by omega) i4 q4 j hj]
    exact ⟨(y8 j hj).1.gx kz kx g, (y8 j hj).2.gx (y8 j hj).1 kz kx g⟩
/-- the four arrays are four -/
theorem IV.four (hI : IV h K0 x U i1 i2 i3 i4 hc Kc) : (hfR hc 600 x ≠ hfR hc 606 x ∧ hfR hc 600 x ≠ hfR hc 609 x ∧ hfR hc 600 x ≠ hfR hc 610 x) ∧ (hfR hc 606 x ≠ hfR hc 609 x ∧ hfR hc 606 x ≠ hfR hc 610 x) ∧ hfR hc 609 x ≠ hfR hc 610 x := by
  obtain ⟨-, -, y3, -⟩ := hI
  have b1 := y3.2.2.2.2.2.2.2.2.2.2.2.1
  have b2 := y3.2.2.2.2.1.2.1
  have b3 := y3.2.2.2.2.2.1.2.1
  have b4 := y3.2.2.2.2.2.2.1.2.1
  refine ⟨⟨fun e => ?_, fun e => ?_, fun e => ?_⟩, ⟨fun e => ?_, fun e => ?_⟩, fun e => ?_⟩
  · rw [e] at b1; omega
  · rw [e] at b1; omega
  · rw [e] at b1; omega
  · rw [e] at b2; omega
  · rw [e] at b2; omega
  · rw [e] at b3; omega
/-- the arrays' places -/
theorem IV.lt (hI : IV h K0 x U i1 i2 i3 i4 hc Kc) : hfR hc 600 x < hz hc ∧ hfR hc 606 x < hz hc ∧ hfR hc 609 x < hz hc ∧ hfR hc 610 x < hz hc := by
  obtain ⟨-, -, y3, -⟩ := hI
  have kz : KZ hc Kc := y3.1.2.2.1
  have b1 := y3.2.2.2.2.2.2.2.2.2.2.2.1
  have b2 := y3.2.2.2.2.1.2.1
  have b3 := y3.2.2.2.2.2.1.2.1
  have b4 := y3.2.2.2.2.2.2.1.2.1
  exact ⟨kz.lt (by omega), kz.lt (by omega), kz.lt (by omega), kz.lt (by omega)⟩
/-- slots, behind i1 rows, i2 States, i3 plans, i4 States -/
def US (i1 i2 i3 i4 u : Nat) : Prop := (u ≤ 10 ∨ u = 37 ∨ u = 38 ∨ (50 ≤ u ∧ u ≤ 53) ∨ u = 100 ∨ u = 127 ∨ u = 128 ∨ u = 200 ∨ u = 227 ∨ u = 228 ∨ u = 410 ∨ u = 413 ∨ (420 ≤ u ∧ u ≤ 424) ∨ (450 ≤ u ∧ u ≤ 454)) ∨ ((300 ≤ u ∧ u < 300 + i1) ∨ (310 ≤ u ∧ u < 310 + i1)) ∨ ((11 ≤ u ∧ u < 11 + i2) ∨ (101 ≤ u ∧ u < 101 + i2) ∨ (201 ≤ u ∧ u < 201 + i2)) ∨ ((411 ≤ u ∧ u < 411 + i3) ∨ (430 ≤ u ∧ u < 430 + 10 * i3)) ∨ ((35 ≤ u ∧ u < 35 + i4) ∨ (125 ≤ u ∧ u < 125 + i4) ∨ (225 ≤ u ∧ u < 225 + i4))
theorem IV.row {s a : Nat} {hy : hp} (hI : IV h K0 x (US i1 0 0 0) i1 0 0 0 hc Kc) (hx : x < hz h) (h8 : i1 < 8) (hs : hz hc ≤ s) (hs0 : s ≠ 0) (hN : RON (wobj hc s) hy s a) : IV h K0 x (US (i1 + 1) 0 0 0) (i1 + 1) 0 0 0 (waR hy (hfR hc 600 x) (va_up (haR hy (hfR hc 600 x)) i1 s)) (kRo Kc s a i1) ∧ haL hy (hfR hc 600 x) = 8 := by
  have xc : x < hz hc := Nat.lt_of_lt_of_le hx hI.1.1
  have four := hI.four
  have lt := hI.lt
  obtain ⟨n1, n2, n3, n4, n5, n6⟩ := new_row (K := Kc) hs hs0 h8 hN
  obtain ⟨g, hf, zx, hr⟩ := step_ary (z := s) (i := i1) xc lt.1 hI.2.2.1.1.2.2.2 n1 n2 _ rfl
  have kn : KK (hz hy) (kRo Kc s a i1) (US (i1 + 1) 0 0 0) := by
    refine (((hI.2.1.add (c := s) (s := 310 + i1) hs (by omega) ?_).add (c := a) (s := 300 + i1) (by omega) (by omega) ?_).mono (by omega) ?_)
    · unfold US; omega
    · unfold US; omega
    · unfold US
      intro u hu
      omega
  have st := hI.step hx (hI.2.2.2.1 600 (by decide)) g hf zx kn hr (fun _ => Nat.le_refl _) (fun e => absurd e four.1.1) (fun e => absurd e four.1.2.1) (fun e => absurd e four.1.2.2)
  refine ⟨?_, ((n1.2 _ lt.1).2.2.2.1).trans hI.2.2.1.2.2.2.2.2.2.2.2.2.2.2.2⟩
  obtain ⟨y1, y2, y3, y4, y5, y6⟩ := st
  refine ⟨y1, y2, y3, y4, fun j hj => ?_, y6⟩
  by_cases c : j = i1
  · subst c
    rw [hf, hr, va_up_self]
    exact ⟨n3, n4⟩
  · exact y5 j (by omega)
theorem IV.ahd {s a b : Nat} {hy : hp} (hI : IV h K0 x (US 8 i2 0 0) 8 i2 0 0 hc Kc) (hx : x < hz h) (h8 : i2 < 24) (hs : hz hc ≤ s) (hs0 : s ≠ 0) (hN : STN (wobj hc s) hy s a b) : IV h K0 x (US 8 (i2 + 1) 0 0) 8 (i2 + 1) 0 0 (waR hy (hfR hc 606 x) (va_up (haR hy (hfR hc 606 x)) i2 s)) (kSt Kc s a b (1 + i2)) ∧ haL hy (hfR hc 606 x) = 24 := by
  have xc : x < hz hc := Nat.lt_of_lt_of_le hx hI.1.1
  have four := hI.four
  have lt := hI.lt
  obtain ⟨n1, n2, n3, n4, n5, n6, n7⟩ := new_state (K := Kc) (s := 1 + i2) hs hs0 (by omega) hN
  obtain ⟨g, hf, zx, hr⟩ := step_ary (z := s) (i := i2) xc lt.2.1 hI.2.2.1.1.2.2.2 n1 n2 _ rfl
  have kn : KK (hz hy) (kSt Kc s a b (1 + i2)) (US 8 (i2 + 1) 0 0) := by
    refine ((((hI.2.1.add (c := s) (s := 10 + (1 + i2)) hs (by omega) ?_).add (c := a) (s := 100 + (1 + i2)) (by omega) (by omega) ?_).add (c := b) (s := 200 + (1 + i2)) (by omega) (by omega) ?_).mono (by omega) ?_)
    · unfold US; omega
    · unfold US; omega
    · unfold US; omega
    · unfold US
      intro u hu
      omega
  have st := hI.step hx (hI.2.2.2.1 606 (by decide)) g hf zx kn hr (fun e => absurd e.symm four.1.1) (fun _ => Nat.le_refl _) (fun e => absurd e four.2.1.1) (fun e => absurd e four.2.1.2)
  refine ⟨?_, ((n1.2 _ lt.2.1).2.2.2.1).trans hI.2.2.1.2.2.2.2.1.2.2⟩
  obtain ⟨y1, y2, y3, y4, y5, y6, y7⟩ := st
  refine ⟨y1, y2, y3, y4, y5, fun j hj => ?_, y7⟩
  by_cases c : j = i2
  · subst c
    rw [hf, hr, va_up_self]
    exact ⟨n3, n4⟩
  · exact y6 j (by omega)
theorem IV.pla {s a b c e g : Nat} {hy : hp} (hI : IV h K0 x (US 8 24 i3 i3) 8 24 i3 i3 hc Kc) (hx : x < hz h) (h8 : i3 < 2) (hs : hz hc ≤ s) (hs0 : s ≠ 0) (hN : PLN (wobj hc s) hy s a b c e g) : IV h K0 x (US 8 24 (i3 + 1) i3) 8 24 (i3 + 1) i3 (waR hy (hfR hc 609 x) (va_up (haR hy (hfR hc 609 x)) i3 s)) (kPl Kc s a b c e g (1 + i3)) ∧ haL hy (hfR hc 609 x) = 2 := by
  have xc : x < hz hc := Nat.lt_of_lt_of_le hx hI.1.1
  have four := hI.four
  have lt := hI.lt
  obtain ⟨n1, n2, n3, n4, n5, n6, n7, n8, n9, n10⟩ := new_plan (K := Kc) (q := 1 + i3) hs hs0 (by omega) hN
  obtain ⟨g', hf, zx, hr⟩ := step_ary (z := s) (i := i3) xc lt.2.2.1 hI.2.2.1.1.2.2.2 n1 n2 _ rfl
  have kn : KK (hz hy) (kPl Kc s a b c e g (1 + i3)) (US 8 24 (i3 + 1) i3) := by
    refine (((((((hI.2.1.add (c := s) (s := 410 + (1 + i3)) hs (by omega) ?_).add (c := a) (s := 420 + 10 * (1 + i3)) (by omega) (by omega) ?_).add (c := b) (s := 421 + 10 * (1 + i3)) (by omega) (by omega) ?_).add (c := c) (s := 422 + 10 * (1 + i3)) (by omega) (by omega) ?_).add (c := e) (s := 423 + 10 * (1 + i3)) (by omega) (by omega) ?_).add (c := g) (s := 424 + 10 * (1 + i3)) (by omega) (by omega) ?_).mono (by omega) ?_)
    · unfold US; omega
    · unfold US; omega
    · unfold US; omega
    · unfold US; omega
    · unfold US; omega
    · unfold US; omega
    · unfold US
      intro u hu
      omega
  have st := hI.step hx (hI.2.2.2.1 609 (by decide)) g' hf zx kn hr (fun e => absurd e.symm four.1.2.1) (fun e => absurd e.symm four.2.1.1) (fun _ => Nat.le_refl _) (fun e => absurd e four.2.2)
  refine ⟨?_, ((n1.2 _ lt.2.2.1).2.2.2.1).trans hI.2.2.1.2.2.2.2.2.1.2.2⟩
  obtain ⟨y1, y2, y3, y4, y5, y6, y7, y8⟩ := st
  refine ⟨y1, y2, y3, y4, y5, y6, fun j hj => ?_, y8⟩
  by_cases c : j = i3
  · subst c
    rw [hf, hr, va_up_self]
    exact ⟨n3, n4⟩
  · exact y7 j (by omega)
theorem IV.ims {s a b : Nat} {hy : hp} (hI : IV h K0 x (US 8 24 (i4 + 1) i4) 8 24 (i4 + 1) i4 hc Kc) (hx : x < hz h) (h8 : i4 < 2) (hs : hz hc ≤ s) (hs0 : s ≠ 0) (hN : STN (wobj hc s) hy s a b) : IV h K0 x (US 8 24 (i4 + 1) (i4 + 1)) 8 24 (i4 + 1) (i4 + 1) (waR hy (hfR hc 610 x) (va_up (haR hy (hfR hc 610 x)) i4 s)) (kSt Kc s a b (25 + i4)) ∧ haL hy (hfR hc 610 x) = 2 := by
  have xc : x < hz hc := Nat.lt_of_lt_of_le hx hI.1.1
  have four := hI.four
  have lt := hI.lt
  obtain ⟨n1, n2, n3, n4, n5, n6, n7⟩ := new_state (K := Kc) (s := 25 + i4) hs hs0 (by omega) hN
  obtain ⟨g, hf, zx, hr⟩ := step_ary (z := s) (i := i4) xc lt.2.2.2 hI.2.2.1.1.2.2.2 n1 n2 _ rfl
  have kn : KK (hz hy) (kSt Kc s a b (25 + i4)) (US 8 24 (i4 + 1) (i4 + 1)) := by
    refine ((((hI.2.1.add (c := s) (s := 10 + (25 + i4)) hs (by omega) ?_).add (c := a) (s := 100 + (25 + i4)) (by omega) (by omega) ?_).add (c := b) (s := 200 + (25 + i4)) (by omega) (by omega) ?_).mono (by omega) ?_)
    · unfold US; omega
    · unfold US; omega
    · unfold US; omega
    · unfold US
      intro u hu
      omega
  have st := hI.step hx (hI.2.2.2.1 610 (by decide)) g hf zx kn hr (fun e => absurd e.symm four.1.2.2) (fun e => absurd e.symm four.2.1.2) (fun e => absurd e.symm four.2.2) (fun _ => Nat.le_refl _)
  refine ⟨?_, ((n1.2 _ lt.2.2.2).2.2.2.1).trans hI.2.2.1.2.2.2.2.2.2.1.2.2⟩
  obtain ⟨y1, y2, y3, y4, y5, y6, y7, y8⟩ := st
  refine ⟨y1, y2, y3, y4, y5, y6, y7, fun j hj => ?_⟩
  by_cases c : j = i4
  · subst c
    rw [hf, hr, va_up_self]
    exact ⟨n3, n4⟩
  · exact y8 j (by omega)
end N8
