/-! ===== the class: its constructor's parts ===== -/
/-- from (h, K) to (h', K') nothing that was has changed but the cells of x, and the references in the arrays A -/
def GX (h : hp) (K : Nat → Nat) (h' : hp) (K' : Nat → Nat) (x : Nat) (A : Nat → Prop) : Prop := hz h ≤ hz h' ∧ (∀ z, z < hz h → K' z = K z) ∧ (∀ z, z < hz h → z ≠ x → (∀ f, hfI h' f z = hfI h f z) ∧ (∀ f, hfR h' f z = hfR h f z) ∧ haI h' z = haI h z ∧ haL h' z = haL h z) ∧ (∀ z, z < hz h → ¬ A z → haR h' z = haR h z)
/-- the used slots are U, codes from N on are none -/
def KK (N : Nat) (K : Nat → Nat) (U : Nat → Prop) : Prop := KI K ∧ (∀ z, N ≤ z → 480 ≤ K z) ∧ ∀ z, K z < 480 → U (K z)
def XF (h h' : hp) (x f v : Nat) : Prop := (∀ g, g ≠ f → hfR h' g x = hfR h g x) ∧ hfR h' f x = v
def ZX (h : hp) (x : Nat) : Prop := ∀ f, hfI h f x = 0
def ZS (h : hp) (z : Nat) : Prop := hfI h 502 z = 0 ∧ hfI h 503 z = 0 ∧ haI h (hfR h 500 z) = zf ∧ haI h (hfR h 501 z) = zf
/-- a plan without blocks -/
def ZP (h : hp) (p : Nat) : Prop := (pI h p 100 = 0 ∧ pI h p 101 = 0 ∧ pI h p 102 = 0 ∧ pI h p 103 = 0 ∧ pI h p 104 = 0) ∧ pA h p 106 = zf ∧ pA h p 107 = zf
def upK (K : Nat → Nat) (c s : Nat) : Nat → Nat := fun z => if z = c then s else K z
section N5
variable {h h' h'' h1 : hp} {K K' K'' : Nat → Nat} {x : Nat} {A A' : Nat → Prop} {U : Nat → Prop}
theorem GX.rf (h : hp) (K : Nat → Nat) (x : Nat) (A : Nat → Prop) : GX h K h K x A := ⟨Nat.le_refl _, fun _ _ => rfl, fun _ _ _ => ⟨fun _ => rfl, fun _ => rfl, rfl, rfl⟩, fun _ _ _ => rfl⟩
theorem GX.mono (g : GX h K h' K' x A) (ha : ∀ z, A z → A' z) : GX h K h' K' x A' := ⟨g.1, g.2.1, g.2.2.1, fun z hz' hn => g.2.2.2 z hz' (fun q => hn (ha z q))⟩
theorem GX.tr (g : GX h K h' K' x A) (g' : GX h' K' h'' K'' x A) : GX h K h'' K'' x A := by
  have l := g.1
  refine ⟨Nat.le_trans l g'.1, fun z hz' => (g'.2.1 z (by omega)).trans (g.2.1 z hz'), fun z hz' hx => ?_, fun z hz' ha => (g'.2.2.2 z (by omega) ha).trans (g.2.2.2 z hz' ha)⟩
  obtain ⟨e1, e2, e3, e4⟩ := g.2.2.1 z hz' hx
  obtain ⟨f1, f2, f3, f4⟩ := g'.2.2.1 z (by omega) hx
  exact ⟨fun f => (f1 f).trans (e1 f), fun f => (f2 f).trans (e2 f), f3.trans e3, f4.trans e4⟩
/-- a cell of the class stays -/
theorem GX.z (g : GX h K h' K' x A) (hK : KZ h K) (hx : K x = 1) {z s : Nat} (hz' : K z = s) (h4 : s < 480) (h1 : s ≠ 1) : z < hz h ∧ K' z = s ∧ (∀ f, hfI h' f z = hfI h f z) ∧ (∀ f, hfR h' f z = hfR h f z) ∧ haI h' z = haI h z ∧ haL h' z = haL h z := by
  have lz := hK.lt (z := z) (by omega)
  have q := g.2.2.1 z lz (fun e => by rw [e] at hz'; omega)
  exact ⟨lz, (g.2.1 z lz).trans hz', q⟩
theorem AR.gx {a s m : Nat} (hs : AR h K a s m) (h4 : s < 480) (h1 : s ≠ 1) (hK : KZ h K) (hx : K x = 1) (g : GX h K h' K' x A) : AR h' K' a s m := by
  obtain ⟨a1, a2, a3⟩ := hs
  obtain ⟨-, k, -, -, -, l⟩ := g.z hK hx a2 h4 h1
  exact ⟨a1, k, l.trans a3⟩
theorem AR.gz {a s m : Nat} (hs : AR h K a s m) (h4 : s < 480) (h1 : s ≠ 1) (hK : KZ h K) (hx : K x = 1) (g : GX h K h' K' x A) : haI h' a = haI h a := (g.z hK hx hs.2.1 h4 h1).2.2.2.2.1
theorem SS.gx {z s : Nat} (hs : SS h K z s) (hK : KZ h K) (hx : K x = 1) (g : GX h K h' K' x A) : SS h' K' z s := by
  obtain ⟨⟨a1, a2, a3⟩, ⟨a4, a5, a6⟩, ⟨a7, a8, a9⟩⟩ := hs
  obtain ⟨-, k, -, r, -, -⟩ := g.z hK hx a2 (by omega) (by omega)
  obtain ⟨-, ka, -, -, -, ra⟩ := g.z hK hx a5 (by omega) (by omega)
  obtain ⟨-, kb, -, -, -, rb⟩ := g.z hK hx a8 (by omega) (by omega)
  unfold SS
  rw [r, r]
  exact ⟨⟨a1, k, a3⟩, ⟨a4, ka, ra.trans a6⟩, ⟨a7, kb, rb.trans a9⟩⟩
theorem ZS.gx {z s : Nat} (hz' : ZS h z) (hs : SS h K z s) (hK : KZ h K) (hx : K x = 1) (g : GX h K h' K' x A) : ZS h' z := by
  obtain ⟨⟨a1, a2, a3⟩, ⟨a4, a5, a6⟩, ⟨a7, a8, a9⟩⟩ := hs
  obtain ⟨d1, d2, d3, d4⟩ := hz'
  obtain ⟨-, -, ri, r, -, -⟩ := g.z hK hx a2 (by omega) (by omega)
  obtain ⟨-, -, -, -, ra, -⟩ := g.z hK hx a5 (by omega) (by omega)
  obtain ⟨-, -, -, -, rb, -⟩ := g.z hK hx a8 (by omega) (by omega)
  unfold ZS
  rw [ri, ri, r, r]
  exact ⟨d1, d2, ra.trans d3, rb.trans d4⟩
theorem PQ.gx {p q : Nat} (hs : PQ h K p q) (hK : KZ h K) (hx : K x = 1) (g : GX h K h' K' x A) : PQ h' K' p q := by
  obtain ⟨⟨a1, a2, a3⟩, b, c, d, e, f⟩ := hs
  obtain ⟨-, k, -, r, -, -⟩ := g.z hK hx a2 (by omega) (by omega)
  unfold PQ
  rw [r, r, r, r, r]
  exact ⟨⟨a1, k, a3⟩, b.gx (by omega) (by omega) hK hx g, c.gx (by omega) (by omega) hK hx g, d.gx (by omega) (by omega) hK hx g, e.gx (by omega) (by omega) hK hx g, f.gx (by omega) (by omega) hK hx g⟩
theorem ZP.gx {p q : Nat} (hz' : ZP h p) (hs : PQ h K p q) (hK : KZ h K) (hx : K x = 1) (g : GX h K h' K' x A) : ZP h' p := by
  obtain ⟨⟨a1, a2, a3⟩, b, c, d, e, f⟩ := hs
  obtain ⟨⟨i0, i1, i2, i3, i4⟩, w6, w7⟩ := hz'
  obtain ⟨-, -, ri, r, -, -⟩ := g.z hK hx a2 (by omega) (by omega)
  unfold ZP pI pA
  rw [ri, ri, ri, ri, ri, r, r, c.gz (by omega) (by omega) hK hx g, d.gz (by omega) (by omega) hK hx g]
  exact ⟨⟨i0, i1, i2, i3, i4⟩, w6, w7⟩
theorem RW1.gx {q r : Nat} (hs : RW1 h K q r) (hK : KZ h K) (hx : K x = 1) (g : GX h K h' K' x A) : RW1 h' K' q r ∧ ∀ f, hfI h' f q = hfI h f q := by
  obtain ⟨a1, a2, a3, a4⟩ := hs
  obtain ⟨-, k, ri, rr, -, -⟩ := g.z hK hx a2 (by omega) (by omega)
  unfold RW1
  rw [rr]
  exact ⟨⟨a1, k, a3.gx (by omega) (by omega) hK hx g, a4⟩, ri⟩
theorem RDR.gx {z : Nat} (hs : RDR h K z) (hK : KZ h K) (hx : K x = 1) (g : GX h K h' K' x A) : RDR h' K' z ∧ (∀ f, hfI h' f z = hfI h f z) ∧ haI h' (hfR h' 201 z) = haI h (hfR h 201 z) := by
  obtain ⟨⟨a1, a2⟩, a3, a4⟩ := hs
  obtain ⟨-, k, ri, rr, -, -⟩ := g.z hK hx a2 (by omega) (by omega)
  unfold RDR
  rw [rr, rr]
  exact ⟨⟨⟨a1, k⟩, a3.gx (by omega) (by omega) hK hx g, a4.gx hK hx g⟩, ri, a3.gz (by omega) (by omega) hK hx g⟩
theorem SE.gx {z : Nat} (hs : SE h K z) (hK : KZ h K) (hx : K x = 1) (g : GX h K h' K' x A) : SE h' K' z := by
  obtain ⟨⟨a1, a2⟩, a3, a4, a5, a6⟩ := hs
  obtain ⟨-, k, -, r, -, -⟩ := g.z hK hx a2 (by omega) (by omega)
  unfold SE
  rw [r, r, r, r]
  exact ⟨⟨a1, k⟩, a3.gx hK hx g, a4.gx (by omega) (by omega) hK hx g, a5.gx (by omega) (by omega) hK hx g, a6.gx (by omega) (by omega) hK hx g⟩
theorem AK.gx {z : Nat} (hs : AK h K z) (hK : KZ h K) (hx : K x = 1) (g : GX h K h' K' x A) : AK h' K' z ∧ ∀ f, hfI h' f z = hfI h f z := by
  obtain ⟨⟨a1, a2⟩, a3⟩ := hs
  obtain ⟨-, k, ri, r, -, -⟩ := g.z hK hx a2 (by omega) (by omega)
  unfold AK
  rw [r]
  exact ⟨⟨⟨a1, k⟩, a3.gx (by omega) (by omega) hK hx g⟩, ri⟩
theorem upK_eq {c s : Nat} : upK K c s c = s := if_pos rfl
theorem upK_ne {c s z : Nat} (hne : z ≠ c) : upK K c s z = K z := if_neg hne
theorem KK.add {N c s : Nat} (k : KK N K U) (hc : N ≤ c) (hs : s < 480) (hu : ¬ U s) : KK (c + 1) (upK K c s) (fun u => U u ∨ u = s) := by
  obtain ⟨k1, k2, k3⟩ := k
  refine ⟨fun z z' hz' he => ?_, fun z hz' => ?_, fun z hz' => ?_⟩
  · by_cases e1 : z = c
    · by_cases e2 : z' = c
      · rw [e1, e2]
      · rw [e1, upK_eq, upK_ne e2] at he
        have := k3 z' (by omega)
        rw [← he] at this
        exact absurd this hu
    · rw [upK_ne e1] at hz' he
      by_cases e2 : z' = c
      · rw [e2, upK_eq] at he
        have := k3 z hz'
        rw [he] at this
        exact absurd this hu
      · rw [upK_ne e2] at he
        exact k1 z z' hz' he
  · rw [upK_ne (by omega)]
    exact k2 z (by omega)
  · by_cases e1 : z = c
    · rw [e1, upK_eq]; exact Or.inr rfl
    · rw [upK_ne e1] at hz' ⊢
      exact Or.inl (k3 z hz')
theorem KK.mono {N M : Nat} {V : Nat → Prop} (k : KK N K U) (hl : N ≤ M) (hU : ∀ u, U u → V u) : KK M K V := ⟨k.1, fun z hz' => k.2.1 z (by omega), fun z hz' => hU _ (k.2.2 z hz')⟩
theorem KK.addL {N c s : Nat} {L : List Nat} (k : KK N K (fun u => u ∈ L)) (hc : N ≤ c) (hs : s < 480) (hu : s ∉ L) : KK (c + 1) (upK K c s) (fun u => u ∈ s :: L) :=
  (k.add hc hs hu).mono (Nat.le_refl _) (fun u hu => hu.elim (fun z => List.mem_cons_of_mem _ z) (fun z => by rw [z]; exact List.mem_cons_self))
theorem KK.z {N : Nat} (k : KK N K U) (hN : N ≤ hz h) : KZ h K := fun z hz' => k.2.1 z (by omega)
/-- a new array, kept in the field f of x -/
theorem step_arr {a m f s : Nat} (hx : x < hz h) (ha : hz h ≤ a) (h0 : ZX h x) (h' : hp) (e : h' = wfR (warr h a m) f x a) (ha0 : a ≠ 0) : GX h K h' (upK K a s) x A ∧ XF h h' x f a ∧ ZX h' x ∧ AR h' (upK K a s) a s m ∧ hz h' = a + 1 := by
  subst e
  refine ⟨⟨Nat.le_succ_of_le ha, fun z hz' => upK_ne (by omega), fun z hz' hne => ⟨fun _ => rfl, fun g => up2_nx hne, va_up_ne _ _ (by omega), va_up_ne _ _ (by omega)⟩, fun z hz' _ => va_up_ne _ _ (by omega)⟩, ⟨fun g hg => up2_nf hg, up2_eq⟩, h0, ⟨ha0, upK_eq, va_up_self _ _ _⟩, rfl⟩
/-- a new thing, kept in the field f of x -/
theorem step_fld {z f : Nat} (hx : x < hz h) (h0 : ZX h x) (hE : EX h h1) (hk : ∀ w, w < hz h → K' w = K w) (h' : hp) (e : h' = wfR h1 f x z) : GX h K h' K' x A ∧ XF h h' x f z ∧ ZX h' x := by
  subst e
  have hEx := hE.2 x hx
  refine ⟨⟨hE.1, hk, fun w hw hne => ?_, fun w hw _ => (hE.2 w hw).2.2.2.2⟩, ⟨fun g hg => (up2_nf hg).trans (hEx.2.1 g), up2_eq⟩, fun g => (hEx.1 g).trans (h0 g)⟩
  obtain ⟨e1, e2, e3, e4, -⟩ := hE.2 w hw
  exact ⟨e1, fun g => (up2_nx hne).trans (e2 g), e3, e4⟩
/-- a new thing, kept in the array B -/
theorem step_ary {z i B : Nat} (hx : x < hz h) (hB : B < hz h) (h0 : ZX h x) (hE : EX h h1) (hk : ∀ w, w < hz h → K' w = K w) (h' : hp) (e : h' = waR h1 B (va_up (haR h1 B) i z)) : GX h K h' K' x (fun w => w = B) ∧ (∀ f, hfR h' f x = hfR h f x) ∧ ZX h' x ∧ haR h' B = va_up (haR h B) i z := by
  subst e
  have hEx := hE.2 x hx
  refine ⟨⟨hE.1, hk, fun w hw hne => ?_, fun w hw ha => (va_up_ne _ _ ha).trans (hE.2 w hw).2.2.2.2⟩, hEx.2.1, fun g => (hEx.1 g).trans (h0 g), ?_⟩
  · obtain ⟨e1, e2, e3, e4, -⟩ := hE.2 w hw
    exact ⟨e1, e2, e3, e4⟩
  · refine (va_up_self _ _ _).trans ?_
    rw [(hE.2 B hB).2.2.2.2]
abbrev kSt (K : Nat → Nat) (z a b s : Nat) : Nat → Nat := upK (upK (upK K z (10 + s)) a (100 + s)) b (200 + s)
theorem new_state {z a b s : Nat} (hz0 : hz h ≤ z) (hzz : z ≠ 0) (hs : s < 29) (hN : STN (wobj h z) h1 z a b) : EX h h1 ∧ (∀ w, w < hz h → kSt K z a b s w = K w) ∧ SS h1 (kSt K z a b s) z s ∧ ZS h1 z ∧ (z < a ∧ a < b ∧ b < hz h1) := by
  obtain ⟨n1, ⟨o1, o2, o3⟩, ⟨i1, i2⟩, ⟨r1, r2⟩, ⟨l1, l2⟩, ⟨c1, c2⟩⟩ := hN
  have o1 : z + 1 ≤ a := o1
  refine ⟨EXn.new hz0 n1, fun w hw => ?_, ⟨⟨hzz, ?_, hs⟩, ?_, ?_⟩, ⟨i1, i2, ?_, ?_⟩, ⟨by omega, o2, o3⟩⟩
  · unfold kSt; rw [upK_ne (by omega), upK_ne (by omega), upK_ne (by omega)]
  · unfold kSt; rw [upK_ne (by omega), upK_ne (by omega), upK_eq]
  · rw [r1]
    exact ⟨by omega, by unfold kSt; rw [upK_ne (by omega), upK_eq], l1⟩
  · rw [r2]
    exact ⟨by omega, upK_eq, l2⟩
  · rw [r1]; exact c1
  · rw [r2]; exact c2
abbrev kPl (K : Nat → Nat) (p a b c e g q : Nat) : Nat → Nat := upK (upK (upK (upK (upK (upK K p (410 + q)) a (420 + 10 * q)) b (421 + 10 * q)) c (422 + 10 * q)) e (423 + 10 * q)) g (424 + 10 * q)
theorem new_plan {p a b c e g q : Nat} (hz0 : hz h ≤ p) (hzz : p ≠ 0) (hq : q < 4) (hN : PLN (wobj h p) h1 p a b c e g) : EX h h1 ∧ (∀ w, w < hz h → kPl K p a b c e g q w = K w) ∧ PQ h1 (kPl K p a b c e g q) p q ∧ ZP h1 p ∧ (p < a ∧ a < b ∧ b < c ∧ c < e ∧ e < g ∧ g < hz h1) := by
  obtain ⟨n1, ⟨o1, o2, o3, o4, o5, o6⟩, ii, ⟨r1, r2, r3, r4, r5⟩, ⟨l1, l2, l3, l4, l5⟩, ⟨c1, c2, c3, c4, c5⟩⟩ := hN
  have o1 : p + 1 ≤ a := o1
  refine ⟨EXn.new hz0 n1, fun w hw => ?_, ⟨⟨hzz, ?_, hq⟩, ?_, ?_, ?_, ?_, ?_⟩, ⟨ii, ?_, ?_⟩, ⟨by omega, o2, o3, o4, o5, o6⟩⟩
  · unfold kPl; rw [upK_ne (by omega), upK_ne (by omega), upK_ne (by omega), upK_ne (by omega), upK_ne (by omega), upK_ne (by omega)]
  · unfold kPl; rw [upK_ne (by omega), upK_ne (by omega), upK_ne (by omega), upK_ne (by omega), upK_ne (by omega), upK_eq]
  · rw [r1]
    exact ⟨by omega, by unfold kPl; rw [upK_ne (by omega), upK_ne (by omega), upK_ne (by omega), upK_ne (by omega), upK_eq], l1⟩
  · rw [r2]
    exact ⟨by omega, by unfold kPl; rw [upK_ne (by omega), upK_ne (by omega), upK_ne (by omega), upK_eq], l2⟩
  · rw [r3]
    exact ⟨by omega, by unfold kPl; rw [upK_ne (by omega), upK_ne (by omega), upK_eq], l3⟩
  · rw [r4]
    exact ⟨by omega, by unfold kPl; rw [upK_ne (by omega), upK_eq], l4⟩
  · rw [r5]
    exact ⟨by omega, upK_eq, l5⟩
  · show haI h1 (hfR h1 106 p) = zf
    rw [r2]; exact c2
  · show haI h1 (hfR h1 107 p) = zf
    rw [r3]; exact c3
abbrev kRo (K : Nat → Nat) (z a r : Nat) : Nat → Nat := upK (upK K z (310 + r)) a (300 + r)
theorem new_row {z a r : Nat} (hz0 : hz h ≤ z) (hzz : z ≠ 0) (hr : r < 8) (hN : RON (wobj h z) h1 z a) : EX h h1 ∧ (∀ w, w < hz h → kRo K z a r w = K w) ∧ RW1 h1 (kRo K z a r) z r ∧ hfI h1 302 z = -1 ∧ (z < a ∧ a < hz h1) := by
  obtain ⟨n1, ⟨o1, o2⟩, r1, l1, i1⟩ := hN
  have o1 : z + 1 ≤ a := o1
  refine ⟨EXn.new hz0 n1, fun w hw => ?_, ⟨hzz, ?_, ?_, hr⟩, i1, ⟨by omega, o2⟩⟩
  · unfold kRo; rw [upK_ne (by omega), upK_ne (by omega)]
  · unfold kRo; rw [upK_ne (by omega), upK_eq]
  · rw [r1]
    exact ⟨by omega, upK_eq, l1⟩
abbrev kRd (K : Nat → Nat) (z p a b c e g t : Nat) : Nat → Nat := upK (kPl (upK K z 9) p a b c e g 3) t 4
theorem new_reader {z p a b c e g t : Nat} (hz0 : hz h ≤ z) (hzz : z ≠ 0) (hN : RDN (wobj h z) h1 z p a b c e g t) : EX h h1 ∧ (∀ w, w < hz h → kRd K z p a b c e g t w = K w) ∧ RDR h1 (kRd K z p a b c e g t) z ∧ (haI h1 (hfR h1 201 z) = zf ∧ hfI h1 202 z = 0) ∧ (z < p ∧ p < a ∧ a < b ∧ b < c ∧ c < e ∧ e < g ∧ g < t ∧ t < hz h1) := by
  obtain ⟨n1, ⟨o0, o1, o2, o3, o4, o5, o6, o7⟩, ⟨r1, r2, r3, r4, r5⟩, ⟨l1, l2, l3, l4, l5⟩, ⟨s0, s1, s2, s3, s4⟩⟩ := hN
  have o0 : z + 1 ≤ p := o0
  refine ⟨EXn.new hz0 n1, fun w hw => ?_, ⟨⟨hzz, ?_⟩, ?_, ?_⟩, ⟨by rw [s1]; exact s3, s4⟩, ⟨by omega, o1, o2, o3, o4, o5, o6, o7⟩⟩
  · unfold kRd kPl; rw [upK_ne (by omega), upK_ne (by omega), upK_ne (by omega), upK_ne (by omega), upK_ne (by omega), upK_ne (by omega), upK_ne (by omega), upK_ne (by omega)]
  · unfold kRd kPl; rw [upK_ne (by omega), upK_ne (by omega), upK_ne (by omega), upK_ne (by omega), upK_ne (by omega), upK_ne (by omega), upK_ne (by omega), upK_eq]
  · rw [s1]
    exact ⟨by omega, upK_eq, s2⟩
  · rw [s0]
    unfold PQ
    rw [r1, r2, r3, r4, r5]
    refine ⟨⟨by omega, ?_, by omega⟩, ⟨by omega, ?_, l1⟩, ⟨by omega, ?_, l2⟩, ⟨by omega, ?_, l3⟩, ⟨by omega, ?_, l4⟩, ⟨by omega, ?_, l5⟩⟩
    · unfold kRd kPl; rw [upK_ne (by omega), upK_ne (by omega), upK_ne (by omega), upK_ne (by omega), upK_ne (by omega), upK_ne (by omega), upK_eq]
    · unfold kRd kPl; rw [upK_ne (by omega), upK_ne (by omega), upK_ne (by omega), upK_ne (by omega), upK_ne (by omega), upK_eq]
    · unfold kRd kPl; rw [upK_ne (by omega), upK_ne (by omega), upK_ne (by omega), upK_ne (by omega), upK_eq]
    · unfold kRd kPl; rw [upK_ne (by omega), upK_ne (by omega), upK_ne (by omega), upK_eq]
    · unfold kRd kPl; rw [upK_ne (by omega), upK_ne (by omega), upK_eq]
    · unfold kRd kPl; rw [upK_ne (by omega), upK_eq]
/-- a write at x is none at z -/
theorem SS.wf {z s f v : Nat} (hs : SS h1 K z s) (hne : z ≠ x) : SS (wfR h1 f x v) K z s := by
  have r : ∀ g, hfR (wfR h1 f x v) g z = hfR h1 g z := fun g => up2_nx hne
  unfold SS
  rw [r, r]
  exact hs
theorem ZS.wf {z f v : Nat} (hs : ZS h1 z) (hne : z ≠ x) : ZS (wfR h1 f x v) z := by
  have r : ∀ g, hfR (wfR h1 f x v) g z = hfR h1 g z := fun g => up2_nx hne
  unfold ZS
  rw [r, r]
  exact hs
theorem PQ.wf {p q f v : Nat} (hs : PQ h1 K p q) (hne : p ≠ x) : PQ (wfR h1 f x v) K p q := by
  have r : ∀ g, hfR (wfR h1 f x v) g p = hfR h1 g p := fun g => up2_nx hne
  unfold PQ
  rw [r, r, r, r, r]
  exact hs
theorem ZP.wf {p f v : Nat} (hs : ZP h1 p) (hne : p ≠ x) : ZP (wfR h1 f x v) p := by
  have r : ∀ g, hfR (wfR h1 f x v) g p = hfR h1 g p := fun g => up2_nx hne
  unfold ZP pA
  rw [r, r]
  exact hs
theorem RDR.wf {z f v : Nat} (hs : RDR h1 K z) (hi : haI h1 (hfR h1 201 z) = zf ∧ hfI h1 202 z = 0) (hne : z ≠ x) (hne2 : hfR h1 200 z ≠ x) : RDR (wfR h1 f x v) K z ∧ (haI (wfR h1 f x v) (hfR (wfR h1 f x v) 201 z) = zf ∧ hfI (wfR h1 f x v) 202 z = 0) := by
  have r : ∀ g, hfR (wfR h1 f x v) g z = hfR h1 g z := fun g => up2_nx hne
  unfold RDR
  rw [r, r]
  exact ⟨⟨hs.1, hs.2.1, hs.2.2.wf hne2⟩, hi⟩
end N5
section N6
variable {d x : Nat} {h : hp} {kk : Rt}
/-- a new search -/
def SEN (h h' : hp) (x s a b u v w : Nat) : Prop := EXn h h' x ∧ (hz h ≤ s ∧ s < a ∧ a < b ∧ b < u ∧ u < v ∧ v < w ∧ w < hz h') ∧ (hfR h' 400 x = s ∧ hfR h' 401 x = u ∧ hfR h' 402 x = v ∧ hfR h' 403 x = w) ∧ (hfR h' 500 s = a ∧ hfR h' 501 s = b) ∧ (haL h' a = 8 ∧ haL h' b = 4 ∧ haL h' u = 4 ∧ haL h' v = 4 ∧ haL h' w = 4)
def ASN (h h' : hp) (x a : Nat) : Prop := EXn h h' x ∧ (hz h ≤ a ∧ a < hz h') ∧ hfR h' 0 x = a ∧ haL h' a = 16 ∧ hfI h' 1 x = 0
set_option maxRecDepth 20000 in
theorem c_askInit (hk : ∀ h' a, ASN h h' (x + 1) a → kk none h') : CL (d + 1) mX0_init 1 16 [.inr (.inr (1, x + 1))] h kk := by
  refine mw T_X0_init (fun Wm go => go cut0 80 0 _ _ _ _ _ ?_)
  refine And.intro ⟨by decide, by decide⟩ (And.intro ⟨by decide, by decide⟩ (fun a ha => ?_))
  have ha : hz h ≤ a := ha
  refine hk _ a ⟨?_, ⟨ha, Nat.lt_succ_self a⟩, ?_, ?_, ?_⟩
  · exact EXnI (EXnI (EXnI (EXnI (EXnI (EXnR (EXnA (EXn.rf _ _) ha))))))
  · show up2 _ 0 (x + 1) a 0 (x + 1) = a
    rw [up2_eq]
  · show va_up _ a 16 a = 16
    rw [va_up_self]
  · show up2 (up2 (up2 (up2 (up2 _ 1 (x + 1) 0) 2 (x + 1) 0) 3 (x + 1) 0) 4 (x + 1) 0) 5 (x + 1) 0 1 (x + 1) = 0
    rw [up2_nf (by decide), up2_nf (by decide), up2_nf (by decide), up2_nf (by decide), up2_eq]
set_option maxRecDepth 20000 in
theorem c_searchInit (hx : x + 1 < hz h) (hk : ∀ h' s a b u v w, SEN h h' (x + 1) s a b u v w → kk none h') : CL (d + 2) mX4_init 6 28 [.inr (.inr (5, x + 1))] h kk := by
  refine mw T_X4_init (fun Wm go => go (cut1 12) 80 0 _ _ _ _ _ ?_)
  refine And.intro ⟨by decide, by decide⟩ (fun s hs => ?_)
  have hs : hz h ≤ s := hs
  obtain ⟨s, rfl⟩ : ∃ z, s = z + 1 := ⟨s - 1, by omega⟩
  refine And.intro ⟨by decide, by decide⟩ ?_
  refine c_stateInit (fun h1 a b hN => ?_)
  obtain ⟨n1, ⟨o1, o2, o3⟩, -, ⟨r1, r2⟩, ⟨l1, l2⟩, -⟩ := hN
  have o1 : s + 1 + 1 ≤ a := o1
  have hE : EX h h1 := EXn.new hs n1
  refine go cut0 80 12 _ _ _ _ _ ?_
  refine And.intro ⟨by decide, by decide⟩ (And.intro ⟨by decide, by decide⟩ (fun u hu => ?_))
  refine And.intro ⟨by decide, by decide⟩ (And.intro ⟨by decide, by decide⟩ (fun v hv => ?_))
  refine And.intro ⟨by decide, by decide⟩ (And.intro ⟨by decide, by decide⟩ (fun w hw => ?_))
  have hu : hz h1 ≤ u := hu
  have hv : u + 1 ≤ v := hv
  have hw : v + 1 ≤ w := hw
  refine hk _ (s + 1) a b u v w ⟨?_, ⟨hs, by omega, o2, by omega, by omega, by omega, Nat.lt_succ_self w⟩, ⟨?_, ?_, ?_, ?_⟩, ⟨?_, ?_⟩, ⟨?_, ?_, ?_, ?_, ?_⟩⟩
  · exact EXnI (EXnI (EXnR (EXnA (EXnR (EXnA (EXnR (EXnA (EXnR (EXn.ex (EXn.rf h (x + 1)) hE)) hu)) hv)) hw)))
  · show up2 (up2 (up2 (up2 _ 400 (x + 1) (s + 1)) 401 (x + 1) u) 402 (x + 1) v) 403 (x + 1) w 400 (x + 1) = _
    rw [up2_nf (by decide), up2_nf (by decide), up2_nf (by decide), up2_eq]
  · show up2 (up2 (up2 _ 401 (x + 1) u) 402 (x + 1) v) 403 (x + 1) w 401 (x + 1) = _
    rw [up2_nf (by decide), up2_nf (by decide), up2_eq]
  · show up2 (up2 _ 402 (x + 1) v) 403 (x + 1) w 402 (x + 1) = _
    rw [up2_nf (by decide), up2_eq]
  · show up2 _ 403 (x + 1) w 403 (x + 1) = _
    rw [up2_eq]
  · show up2 (up2 (up2 (up2 _ 400 (x + 1) (s + 1)) 401 (x + 1) u) 402 (x + 1) v) 403 (x + 1) w 500 (s + 1) = _
    rw [up2_nf (by decide), up2_nf (by decide), up2_nf (by decide), up2_nf (by decide)]; exact r1
  · show up2 (up2 (up2 (up2 _ 400 (x + 1) (s + 1)) 401 (x + 1) u) 402 (x + 1) v) 403 (x + 1) w 501 (s + 1) = _
    rw [up2_nf (by decide), up2_nf (by decide), up2_nf (by decide), up2_nf (by decide)]; exact r2
  · show va_up (va_up (va_up _ u 4) v 4) w 4 a = 8
    rw [va_up_ne _ _ (by omega), va_up_ne _ _ (by omega), va_up_ne _ _ (by omega)]; exact l1
  · show va_up (va_up (va_up _ u 4) v 4) w 4 b = 4
    rw [va_up_ne _ _ (by omega), va_up_ne _ _ (by omega), va_up_ne _ _ (by omega)]; exact l2
  · show va_up (va_up (va_up _ u 4) v 4) w 4 u = 4
    rw [va_up_ne _ _ (by omega), va_up_ne _ _ (by omega), va_up_self]
  · show va_up (va_up _ v 4) w 4 v = 4
    rw [va_up_ne _ _ (by omega), va_up_self]
  · show va_up _ w 4 w = 4
    rw [va_up_self]
end N6
section N6b
variable {h h1 : hp} {K : Nat → Nat} {x : Nat}
abbrev kSe (K : Nat → Nat) (z s a b u v w : Nat) : Nat → Nat := upK (upK (upK (upK (upK (upK (upK K z 2) s 38) a 128) b 228) u 6) v 7) w 8
theorem new_search {z s a b u v w f : Nat} (hz0 : hz h ≤ z) (hzz : z ≠ 0) (hx : x < hz h) (hN : SEN (wobj h z) h1 z s a b u v w) : EX h h1 ∧ (∀ q, q < hz h → kSe K z s a b u v w q = K q) ∧ SE (wfR h1 f x z) (kSe K z s a b u v w) z ∧ (z < s ∧ s < a ∧ a < b ∧ b < u ∧ u < v ∧ v < w ∧ w < hz h1) := by
  obtain ⟨n1, ⟨o1, o2, o3, o4, o5, o6, o7⟩, ⟨r0, r1, r2, r3⟩, ⟨r5, r6⟩, ⟨l1, l2, l3, l4, l5⟩⟩ := hN
  have o1 : z + 1 ≤ s := o1
  have e0 : hfR (wfR h1 f x z) 400 z = s := (up2_nx (by omega)).trans r0
  have e1 : hfR (wfR h1 f x z) 401 z = u := (up2_nx (by omega)).trans r1
  have e2 : hfR (wfR h1 f x z) 402 z = v := (up2_nx (by omega)).trans r2
  have e3 : hfR (wfR h1 f x z) 403 z = w := (up2_nx (by omega)).trans r3
  have e5 : hfR (wfR h1 f x z) 500 s = a := (up2_nx (by omega)).trans r5
  have e6 : hfR (wfR h1 f x z) 501 s = b := (up2_nx (by omega)).trans r6
  refine ⟨EXn.new hz0 n1, fun q hq => ?_, ?_, ⟨by omega, o2, o3, o4, o5, o6, o7⟩⟩
  · unfold kSe; rw [upK_ne (by omega), upK_ne (by omega), upK_ne (by omega), upK_ne (by omega), upK_ne (by omega), upK_ne (by omega), upK_ne (by omega)]
  · unfold SE SS AR
    rw [e0, e1, e2, e3, e5, e6]
    refine ⟨⟨hzz, ?_⟩, ⟨⟨by omega, ?_, by omega⟩, ⟨by omega, ?_, l1⟩, ⟨by omega, ?_, l2⟩⟩, ⟨by omega, ?_, l3⟩, ⟨by omega, ?_, l4⟩, ⟨by omega, ?_, l5⟩⟩
    · unfold kSe; rw [upK_ne (by omega), upK_ne (by omega), upK_ne (by omega), upK_ne (by omega), upK_ne (by omega), upK_ne (by omega), upK_eq]
    · unfold kSe; rw [upK_ne (by omega), upK_ne (by omega), upK_ne (by omega), upK_ne (by omega), upK_ne (by omega), upK_eq]
    · unfold kSe; rw [upK_ne (by omega), upK_ne (by omega), upK_ne (by omega), upK_ne (by omega), upK_eq]
    · unfold kSe; rw [upK_ne (by omega), upK_ne (by omega), upK_ne (by omega), upK_eq]
    · unfold kSe; rw [upK_ne (by omega), upK_ne (by omega), upK_eq]
    · unfold kSe; rw [upK_ne (by omega), upK_eq]
    · unfold kSe; rw [upK_eq]
abbrev kAs (K : Nat → Nat) (z a : Nat) : Nat → Nat := upK (upK K z 3) a 5
theorem new_ask {z a f : Nat} (hz0 : hz h ≤ z) (hzz : z ≠ 0) (hx : x < hz h) (hN : ASN (wobj h z) h1 z a) : EX h h1 ∧ (∀ q, q < hz h → kAs K z a q = K q) ∧ (AK (wfR h1 f x z) (kAs K z a) z ∧ hfI (wfR h1 f x z) 1 z = 0) ∧ (z < a ∧ a < hz h1) := by
  obtain ⟨n1, ⟨o1, o2⟩, r0, l0x, i1⟩ := hN
  have o1 : z + 1 ≤ a := o1
  have e0 : hfR (wfR h1 f x z) 0 z = a := (up2_nx (by omega)).trans r0
  refine ⟨EXn.new hz0 n1, fun q hq => ?_, ⟨?_, i1⟩, ⟨by omega, o2⟩⟩
  · unfold kAs; rw [upK_ne (by omega), upK_ne (by omega)]
  · unfold AK AR
    rw [e0]
    exact ⟨⟨hzz, by unfold kAs; rw [upK_ne (by omega), upK_eq]⟩, ⟨by omega, upK_eq, l0x⟩⟩
end N6b
