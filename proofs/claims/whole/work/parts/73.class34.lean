/-! ===== the class: its constructor ===== -/
theorem wfI_id {h : hp} {f x : Nat} {v : Int32} (e : hfI h f x = v) : wfI h f x v = h := by
  unfold wfI
  refine Prod.ext ?_ rfl
  funext f' x'
  show up2 h.1 f x v f' x' = h.1 f' x'
  unfold up2
  by_cases c1 : f' = f
  · rw [if_pos c1]
    by_cases c2 : x' = x
    · rw [if_pos c2, c1, c2]; exact e.symm
    · rw [if_neg c2]
  · rw [if_neg c1]
theorem wmk {Wm : Nx} {pc cu su cu' su' : Nat} {L L' : Lo} {S S' : List pv} {h h' : hp} (hk : Wm pc L' S' h' cu' su') (e1 : L = L') (e2 : S = S') (e3 : h = h') (e4 : cu = cu') (e5 : su = su') : Wm pc L S h cu su := by subst e1; subst e2; subst e3; subst e4; subst e5; exact hk
section N7
variable {h h' : hp} {K K' : Nat → Nat} {x A : Nat}
theorem KK.addL {N c s : Nat} {L : List Nat} (k : KK N K (fun u => u ∈ L)) (hc : N ≤ c) (hs : s < 400) (hu : s ∉ L) : KK (c + 1) (upK K c s) (fun u => u ∈ s :: L) :=
  (k.add hc hs hu).mono (Nat.le_refl _) (fun u hu => hu.elim (fun z => List.mem_cons_of_mem _ z) (fun z => by rw [z]; exact List.mem_cons_self))
theorem SE.gx {z : Nat} (hs : SE h K z) (hK : KZ h K) (hx : K x = 1) (g : GX h K h' K' x A) : SE h' K' z := by
  obtain ⟨⟨a1, a2⟩, a3, a4, a5, a6⟩ := hs
  have lz := hK.lt (z := z) (by omega)
  obtain ⟨-, r, -, -⟩ := g.2.2.1 z lz (fun e => by rw [e] at a2; omega)
  unfold SE
  rw [r, r, r, r]
  exact ⟨⟨a1, (g.2.1 z lz).trans a2⟩, a3.gx hK hx g, a4.gx (by omega) (by omega) hK hx g, a5.gx (by omega) (by omega) hK hx g, a6.gx (by omega) (by omega) hK hx g⟩
theorem AK.gx {z : Nat} (hs : AK h K z) (hK : KZ h K) (hx : K x = 1) (g : GX h K h' K' x A) : AK h' K' z ∧ ∀ f, hfI h' f z = hfI h f z := by
  obtain ⟨⟨a1, a2⟩, a3⟩ := hs
  have lz := hK.lt (z := z) (by omega)
  obtain ⟨ri, r, -, -⟩ := g.2.2.1 z lz (fun e => by rw [e] at a2; omega)
  unfold AK
  rw [r]
  exact ⟨⟨⟨a1, (g.2.1 z lz).trans a2⟩, a3.gx (by omega) (by omega) hK hx g⟩, ri⟩
/-- a plan without blocks -/
def PL0 (h : hp) (K : Nat → Nat) (p : Nat) : Prop := (PP h K p ∧ PZ h p) ∧ (pI h p 100 = 0 ∧ pI h p 101 = 0 ∧ pI h p 102 = 0 ∧ pI h p 103 = 0 ∧ pI h p 104 = 0) ∧ (pA h p 106 = zf ∧ pA h p 107 = zf ∧ pA h p 108 = zf)
theorem PL0.gx {p : Nat} (hs : PL0 h K p) (hx : K x = 1) (g : GX h K h' K' x A) : PL0 h' K' p := by
  obtain ⟨⟨⟨a1, ⟨b1, b2, b3⟩, ⟨c1, c2, c3⟩, ⟨d1, d2, d3⟩, ⟨f1, f2, f3⟩⟩, ⟨z1, z5, z6, z7, z8⟩⟩, ⟨i0, i1, i2, i3, i4⟩, ⟨w6, w7, w8⟩⟩ := hs
  have ne : ∀ z, 400 ≤ K z → z ≠ x := fun z hz' e => by rw [e, hx] at hz'; omega
  obtain ⟨ri, r, -, -⟩ := g.2.2.1 p z1 (ne p a1.2)
  obtain ⟨-, -, -, l5⟩ := g.2.2.1 _ z5 (ne _ b2)
  obtain ⟨-, -, q6, l6⟩ := g.2.2.1 _ z6 (ne _ c2)
  obtain ⟨-, -, q7, l7⟩ := g.2.2.1 _ z7 (ne _ d2)
  obtain ⟨-, -, q8, l8⟩ := g.2.2.1 _ z8 (ne _ f2)
  have lz := g.1
  unfold PL0 PP PZ pI pA
  rw [ri, ri, ri, ri, ri, r, r, r, r, g.2.1 p z1, g.2.1 _ z5, g.2.1 _ z6, g.2.1 _ z7, g.2.1 _ z8, l5, l6, l7, l8, q6, q7, q8]
  exact ⟨⟨⟨a1, ⟨b1, b2, b3⟩, ⟨c1, c2, c3⟩, ⟨d1, d2, d3⟩, ⟨f1, f2, f3⟩⟩, ⟨by omega, by omega, by omega, by omega, by omega⟩⟩, ⟨i0, i1, i2, i3, i4⟩, ⟨w6, w7, w8⟩⟩
theorem step_search {z s a b u v w f : Nat} {h1 : hp} (hx : x < hz h) (hz0 : hz h ≤ z) (hzz : z ≠ 0) (h0 : ZX h x) (hN : SEN (wobj h z) h1 z s a b u v w) (h' : hp) (e : h' = wfR h1 f x z) : GX h K h' (upK (upK (upK (upK (upK (upK (upK K z 2) s 38) a 128) b 228) u 6) v 7) w 8) x A ∧ XF h h' x f z ∧ ZX h' x ∧ SE h' (upK (upK (upK (upK (upK (upK (upK K z 2) s 38) a 128) b 228) u 6) v 7) w 8) z ∧ (hz h ≤ z ∧ z < s ∧ s < a ∧ a < b ∧ b < u ∧ u < v ∧ v < w ∧ w < hz h') := by
  subst e
  obtain ⟨n1, ⟨o1, o2, o3, o4, o5, o6, o7⟩, ⟨r0, r1, r2, r3⟩, ⟨r5, r6⟩, ⟨l1, l2, l3, l4, l5⟩⟩ := hN
  have o1 : z + 1 ≤ s := o1
  have hE : EX h h1 := EXn.new hz0 n1
  have hEx := hE.2 x hx
  have e0 : hfR (wfR h1 f x z) 400 z = s := (up2_nx (by omega)).trans r0
  have e1 : hfR (wfR h1 f x z) 401 z = u := (up2_nx (by omega)).trans r1
  have e2 : hfR (wfR h1 f x z) 402 z = v := (up2_nx (by omega)).trans r2
  have e3 : hfR (wfR h1 f x z) 403 z = w := (up2_nx (by omega)).trans r3
  have e5 : hfR (wfR h1 f x z) 500 s = a := (up2_nx (by omega)).trans r5
  have e6 : hfR (wfR h1 f x z) 501 s = b := (up2_nx (by omega)).trans r6
  refine ⟨⟨hE.1, fun q hq => ?_, fun q hq hne => ?_, fun q hq _ => (hE.2 q hq).2.2.2.2⟩, ⟨fun g hg => (up2_nf hg).trans (hEx.2.1 g), up2_eq⟩, fun g => (hEx.1 g).trans (h0 g), ?_, ⟨hz0, by omega, o2, o3, o4, o5, o6, o7⟩⟩
  · rw [upK_ne (by omega), upK_ne (by omega), upK_ne (by omega), upK_ne (by omega), upK_ne (by omega), upK_ne (by omega), upK_ne (by omega)]
  · obtain ⟨y1, y2, y3, y4, -⟩ := hE.2 q hq
    exact ⟨y1, fun g => (up2_nx hne).trans (y2 g), y3, y4⟩
  · unfold SE SS AR
    rw [e0, e1, e2, e3, e5, e6]
    refine ⟨⟨hzz, ?_⟩, ⟨⟨by omega, ?_, by omega⟩, ⟨by omega, ?_, l1⟩, ⟨by omega, ?_, l2⟩⟩, ⟨by omega, ?_, l3⟩, ⟨by omega, ?_, l4⟩, ⟨by omega, ?_, l5⟩⟩
    · rw [upK_ne (by omega), upK_ne (by omega), upK_ne (by omega), upK_ne (by omega), upK_ne (by omega), upK_ne (by omega), upK_eq]
    · rw [upK_ne (by omega), upK_ne (by omega), upK_ne (by omega), upK_ne (by omega), upK_ne (by omega), upK_eq]
    · rw [upK_ne (by omega), upK_ne (by omega), upK_ne (by omega), upK_ne (by omega), upK_eq]
    · rw [upK_ne (by omega), upK_ne (by omega), upK_ne (by omega), upK_eq]
    · rw [upK_ne (by omega), upK_ne (by omega), upK_eq]
    · rw [upK_ne (by omega), upK_eq]
    · rw [upK_eq]
theorem step_ask {z a f : Nat} {h1 : hp} (hx : x < hz h) (hz0 : hz h ≤ z) (hzz : z ≠ 0) (h0 : ZX h x) (hN : ASN (wobj h z) h1 z a) (h' : hp) (e : h' = wfR h1 f x z) : GX h K h' (upK (upK K z 3) a 5) x A ∧ XF h h' x f z ∧ ZX h' x ∧ AK h' (upK (upK K z 3) a 5) z ∧ hfI h' 1 z = 0 ∧ (hz h ≤ z ∧ z < a ∧ a < hz h') := by
  subst e
  obtain ⟨n1, ⟨o1, o2⟩, r0, l0, i1⟩ := hN
  have o1 : z + 1 ≤ a := o1
  have hE : EX h h1 := EXn.new hz0 n1
  have hEx := hE.2 x hx
  have e0 : hfR (wfR h1 f x z) 0 z = a := (up2_nx (by omega)).trans r0
  refine ⟨⟨hE.1, fun q hq => ?_, fun q hq hne => ?_, fun q hq _ => (hE.2 q hq).2.2.2.2⟩, ⟨fun g hg => (up2_nf hg).trans (hEx.2.1 g), up2_eq⟩, fun g => (hEx.1 g).trans (h0 g), ?_, i1, ⟨hz0, by omega, o2⟩⟩
  · rw [upK_ne (by omega), upK_ne (by omega)]
  · obtain ⟨y1, y2, y3, y4, -⟩ := hE.2 q hq
    exact ⟨y1, fun g => (up2_nx hne).trans (y2 g), y3, y4⟩
  · unfold AK AR
    rw [e0]
    exact ⟨⟨hzz, by rw [upK_ne (by omega), upK_eq]⟩, ⟨by omega, upK_eq, l0⟩⟩
end N7
theorem AR.gz {h h' : hp} {K K' : Nat → Nat} {x A a s m : Nat} (hs : AR h K a s m) (h4 : s < 400) (h1 : s ≠ 1) (hK : KZ h K) (hx : K x = 1) (g : GX h K h' K' x A) (hw : haI h a = zf) : haI h' a = zf := by
  obtain ⟨a1, a2, a3⟩ := hs
  have la := hK.lt (z := a) (by omega)
  obtain ⟨-, -, ri, -⟩ := g.2.2.1 a la (fun e => by rw [e] at a2; omega)
  exact ri.trans hw
/-- what stands of a new castle but the States in its arrays -/
def PH1 (h : hp) (K : Nat → Nat) (x : Nat) : Prop := (KI K ∧ K x = 1 ∧ KZ h K ∧ ZX h x) ∧ PL0 h K (hfR h 605 x) ∧ (SS h K (hfR h 606 x) 0 ∧ ZS h (hfR h 606 x)) ∧ (AR h K (hfR h 601 x) 4 120 ∧ haI h (hfR h 601 x) = zf) ∧ AR h K (hfR h 607 x) 51 24 ∧ AR h K (hfR h 610 x) 52 2 ∧ AR h K (hfR h 611 x) 53 2 ∧ SS h K (hfR h 612 x) 27 ∧ SE h K (hfR h 613 x) ∧ (AK h K (hfR h 614 x) ∧ hfI h 1 (hfR h 614 x) = 0) ∧ AR h K (hfR h 600 x) 50 8 ∧ haR h (hfR h 600 x) = (fun _ => 0) ∧ haR h (hfR h 610 x) = (fun _ => 0)
theorem PH1.gx {h h' : hp} {K K' : Nat → Nat} {x A : Nat} (p : PH1 h K x) (hk : KI K') (hkz : KZ h' K') (hx : x < hz h) (hzx : ZX h' x) (g : GX h K h' K' x A) (hf : ∀ f, hfR h' f x = hfR h f x) (a1 : A ≠ hfR h 600 x) (a2 : A ≠ hfR h 610 x) : PH1 h' K' x := by
  obtain ⟨⟨k1, k2, k3, k4⟩, p1, ⟨p2, p3⟩, p4, p5, p6, p7, p8, p9, ⟨p10, p11⟩, p12, p13, p14⟩ := p
  have l0 := k3.lt (z := hfR h 600 x) (by rw [p12.2.1]; decide)
  have l1 := k3.lt (z := hfR h 610 x) (by rw [p6.2.1]; decide)
  have ak := p10.gx k3 k2 g
  unfold PH1
  rw [hf, hf, hf, hf, hf, hf, hf, hf, hf, hf]
  exact ⟨⟨hk, (g.2.1 x hx).trans k2, hkz, hzx⟩, p1.gx k2 g, ⟨p2.gx k3 k2 g, p3.gx p2 k3 k2 g⟩, ⟨p4.1.gx (by omega) (by omega) k3 k2 g, p4.1.gz (by omega) (by omega) k3 k2 g p4.2⟩, p5.gx (by omega) (by omega) k3 k2 g, p6.gx (by omega) (by omega) k3 k2 g, p7.gx (by omega) (by omega) k3 k2 g, p8.gx k3 k2 g, p9.gx k3 k2 g, ⟨ak.1, (ak.2 1).trans p11⟩, p12.gx (by omega) (by omega) k3 k2 g, (g.2.2.2 _ l0 (fun e => a1 e.symm)).trans p13, (g.2.2.2 _ l1 (fun e => a2 e.symm)).trans p14⟩
