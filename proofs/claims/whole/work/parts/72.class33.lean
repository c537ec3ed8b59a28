/-! ===== the class: its constructor's parts ===== -/
/-- from (h, K) to (h', K') nothing that was has changed but the cells of x, and the references in the array A -/
def GX (h : hp) (K : Nat → Nat) (h' : hp) (K' : Nat → Nat) (x A : Nat) : Prop := hz h ≤ hz h' ∧ (∀ z, z < hz h → K' z = K z) ∧ (∀ z, z < hz h → z ≠ x → (∀ f, hfI h' f z = hfI h f z) ∧ (∀ f, hfR h' f z = hfR h f z) ∧ haI h' z = haI h z ∧ haL h' z = haL h z) ∧ (∀ z, z < hz h → z ≠ A → haR h' z = haR h z)
/-- the used slots are among L, codes from N on are none -/
def KK (N : Nat) (K : Nat → Nat) (U : Nat → Prop) : Prop := KI K ∧ (∀ z, N ≤ z → 400 ≤ K z) ∧ ∀ z, K z < 400 → U (K z)
def XF (h h' : hp) (x f v : Nat) : Prop := (∀ g, g ≠ f → hfR h' g x = hfR h g x) ∧ hfR h' f x = v
def ZX (h : hp) (x : Nat) : Prop := ∀ f, hfI h f x = 0
def ZS (h : hp) (z : Nat) : Prop := hfI h 502 z = 0 ∧ hfI h 503 z = 0 ∧ haI h (hfR h 500 z) = zf ∧ haI h (hfR h 501 z) = zf
def upK (K : Nat → Nat) (c s : Nat) : Nat → Nat := fun z => if z = c then s else K z
section N5
variable {h h' h'' : hp} {K K' K'' : Nat → Nat} {x A : Nat} {U : Nat → Prop}
theorem GX.rf (h : hp) (K : Nat → Nat) (x A : Nat) : GX h K h K x A := ⟨Nat.le_refl _, fun _ _ => rfl, fun _ _ _ => ⟨fun _ => rfl, fun _ => rfl, rfl, rfl⟩, fun _ _ _ => rfl⟩
theorem GX.tr (g : GX h K h' K' x A) (g' : GX h' K' h'' K'' x A) : GX h K h'' K'' x A := by
  have l := g.1
  refine ⟨Nat.le_trans l g'.1, fun z hz' => (g'.2.1 z (by omega)).trans (g.2.1 z hz'), fun z hz' hx => ?_, fun z hz' ha => (g'.2.2.2 z (by omega) ha).trans (g.2.2.2 z hz' ha)⟩
  obtain ⟨e1, e2, e3, e4⟩ := g.2.2.1 z hz' hx
  obtain ⟨f1, f2, f3, f4⟩ := g'.2.2.1 z (by omega) hx
  exact ⟨fun f => (f1 f).trans (e1 f), fun f => (f2 f).trans (e2 f), f3.trans e3, f4.trans e4⟩
theorem SS.gx {z s : Nat} (hs : SS h K z s) (hK : KZ h K) (hx : K x = 1) (g : GX h K h' K' x A) : SS h' K' z s := by
  obtain ⟨⟨a1, a2, a3⟩, ⟨a4, a5, a6⟩, ⟨a7, a8, a9⟩⟩ := hs
  have lz := hK.lt (z := z) (by omega)
  have la := hK.lt (z := hfR h 500 z) (by omega)
  have lb := hK.lt (z := hfR h 501 z) (by omega)
  obtain ⟨-, r, -, -⟩ := g.2.2.1 z lz (fun e => by rw [e] at a2; omega)
  obtain ⟨-, -, -, ra⟩ := g.2.2.1 _ la (fun e => by rw [e] at a5; omega)
  obtain ⟨-, -, -, rb⟩ := g.2.2.1 _ lb (fun e => by rw [e] at a8; omega)
  unfold SS
  rw [r, r]
  exact ⟨⟨a1, (g.2.1 z lz).trans a2, a3⟩, ⟨a4, (g.2.1 _ la).trans a5, ra.trans a6⟩, ⟨a7, (g.2.1 _ lb).trans a8, rb.trans a9⟩⟩
theorem AR.gx {a s m : Nat} (hs : AR h K a s m) (h4 : s < 400) (h1 : s ≠ 1) (hK : KZ h K) (hx : K x = 1) (g : GX h K h' K' x A) : AR h' K' a s m := by
  obtain ⟨a1, a2, a3⟩ := hs
  have la := hK.lt (z := a) (by omega)
  obtain ⟨-, -, -, ra⟩ := g.2.2.1 a la (fun e => by rw [e] at a2; omega)
  exact ⟨a1, (g.2.1 a la).trans a2, ra.trans a3⟩
theorem ZS.gx {z s : Nat} (hz' : ZS h z) (hs : SS h K z s) (hK : KZ h K) (hx : K x = 1) (g : GX h K h' K' x A) : ZS h' z := by
  obtain ⟨⟨a1, a2, a3⟩, ⟨a4, a5, a6⟩, ⟨a7, a8, a9⟩⟩ := hs
  obtain ⟨d1, d2, d3, d4⟩ := hz'
  have lz := hK.lt (z := z) (by omega)
  have la := hK.lt (z := hfR h 500 z) (by omega)
  have lb := hK.lt (z := hfR h 501 z) (by omega)
  obtain ⟨ri, r, -, -⟩ := g.2.2.1 z lz (fun e => by rw [e] at a2; omega)
  obtain ⟨-, -, ra, -⟩ := g.2.2.1 _ la (fun e => by rw [e] at a5; omega)
  obtain ⟨-, -, rb, -⟩ := g.2.2.1 _ lb (fun e => by rw [e] at a8; omega)
  unfold ZS
  rw [ri, ri, r, r]
  exact ⟨d1, d2, ra.trans d3, rb.trans d4⟩
theorem upK_eq {c s : Nat} : upK K c s c = s := if_pos rfl
theorem upK_ne {c s z : Nat} (hne : z ≠ c) : upK K c s z = K z := if_neg hne
theorem KK.add {N c s : Nat} (k : KK N K U) (hc : N ≤ c) (hs : s < 400) (hu : ¬ U s) : KK (c + 1) (upK K c s) (fun u => U u ∨ u = s) := by
  obtain ⟨k1, k2, k3⟩ := k
  refine ⟨fun z z' hz' he => ?_, fun z hz' => ?_, fun z hz' => ?_⟩
  · by_cases e1 : z = c
    · by_cases e2 : z' = c
      · rw [e1, e2]
      · rw [e1, upK_eq, upK_ne e2] at he
        have := k3 z' (by omega)
        rw [← he] at this
        exact absurd this hu
    · rw [upK_ne e1] at hz' he
      by_cases e2 : z' = c
      · rw [e2, upK_eq] at he
        have := k3 z hz'
        rw [he] at this
        exact absurd this hu
      · rw [upK_ne e2] at he
        exact k1 z z' hz' he
  · rw [upK_ne (by omega)]
    exact k2 z (by omega)
  · by_cases e1 : z = c
    · rw [e1, upK_eq]; exact Or.inr rfl
    · rw [upK_ne e1] at hz' ⊢
      exact Or.inl (k3 z hz')
theorem KK.mono {N M : Nat} {V : Nat → Prop} (k : KK N K U) (hl : N ≤ M) (hU : ∀ u, U u → V u) : KK M K V := ⟨k.1, fun z hz' => k.2.1 z (by omega), fun z hz' => hU _ (k.2.2 z hz')⟩
theorem KK.z {N : Nat} (k : KK N K U) (hN : N ≤ hz h) : KZ h K := fun z hz' => k.2.1 z (by omega)
/-- a new array, kept in the field f of x -/
theorem step_arr {a m f s : Nat} (hx : x < hz h) (ha : hz h ≤ a) (h0 : ZX h x) (h' : hp) (e : h' = wfR (warr h a m) f x a) (ha0 : a ≠ 0) : GX h K h' (upK K a s) x A ∧ XF h h' x f a ∧ ZX h' x ∧ AR h' (upK K a s) a s m ∧ haI h' a = zf ∧ haR h' a = (fun _ => 0) ∧ hz h' = a + 1 := by
  subst e
  refine ⟨⟨Nat.le_succ_of_le ha, fun z hz' => upK_ne (by omega), fun z hz' hne => ⟨fun _ => rfl, fun g => up2_nx hne, va_up_ne _ _ (by omega), va_up_ne _ _ (by omega)⟩, fun z hz' _ => va_up_ne _ _ (by omega)⟩, ⟨fun g hg => up2_nf hg, up2_eq⟩, h0, ⟨ha0, upK_eq, va_up_self _ _ _⟩, va_up_self _ _ _, va_up_self _ _ _, rfl⟩
/-- a new State, kept in the field f of x -/
theorem step_state {z a b f s : Nat} {h1 : hp} (hx : x < hz h) (hz0 : hz h ≤ z) (hzz : z ≠ 0) (h0 : ZX h x) (hs : s < 29) (hN : STN (wobj h z) h1 z a b) (h' : hp) (e : h' = wfR h1 f x z) : GX h K h' (upK (upK (upK K z (10 + s)) a (100 + s)) b (200 + s)) x A ∧ XF h h' x f z ∧ ZX h' x ∧ SS h' (upK (upK (upK K z (10 + s)) a (100 + s)) b (200 + s)) z s ∧ ZS h' z ∧ (hz h ≤ z ∧ z < a ∧ a < b ∧ b < hz h') := by
  subst e
  obtain ⟨n1, ⟨o1, o2, o3⟩, ⟨i1, i2⟩, ⟨r1, r2⟩, ⟨l1, l2⟩, ⟨c1, c2⟩⟩ := hN
  have o1 : z + 1 ≤ a := o1
  have hE : EX h h1 := EXn.new hz0 n1
  have hEx := hE.2 x hx
  refine ⟨⟨hE.1, fun w hw => ?_, fun w hw hne => ?_, fun w hw _ => (hE.2 w hw).2.2.2.2⟩, ⟨fun g hg => (up2_nf hg).trans (hEx.2.1 g), up2_eq⟩, fun g => (hEx.1 g).trans (h0 g), ⟨⟨hzz, ?_, hs⟩, ?_, ?_⟩, ⟨i1, i2, ?_, ?_⟩, ⟨hz0, by omega, o2, o3⟩⟩
  · rw [upK_ne (by omega), upK_ne (by omega), upK_ne (by omega)]
  · obtain ⟨e1, e2, e3, e4, -⟩ := hE.2 w hw
    exact ⟨e1, fun g => (up2_nx hne).trans (e2 g), e3, e4⟩
  · rw [upK_ne (by omega), upK_ne (by omega), upK_eq]
  · have er : hfR (wfR h1 f x z) 500 z = a := (up2_nx (by omega)).trans r1
    rw [er]
    exact ⟨by omega, by rw [upK_ne (by omega), upK_eq], l1⟩
  · have er : hfR (wfR h1 f x z) 501 z = b := (up2_nx (by omega)).trans r2
    rw [er]
    exact ⟨by omega, upK_eq, l2⟩
  · have er : hfR (wfR h1 f x z) 500 z = a := (up2_nx (by omega)).trans r1
    rw [er]; exact c1
  · have er : hfR (wfR h1 f x z) 501 z = b := (up2_nx (by omega)).trans r2
    rw [er]; exact c2
/-- a new plan without blocks, kept in the field f of x -/
theorem step_plan {p a b c e f : Nat} {h1 : hp} (hx : x < hz h) (hz0 : hz h ≤ p) (hzz : p ≠ 0) (h0 : ZX h x) (hK : KZ h K) (hN : PLN (wobj h p) h1 p a b c e) (h' : hp) (e' : h' = wfR h1 f x p) : GX h K h' K x A ∧ XF h h' x f p ∧ ZX h' x ∧ (PP h' K p ∧ PZ h' p) ∧ (pI h' p 100 = 0 ∧ pI h' p 101 = 0 ∧ pI h' p 102 = 0 ∧ pI h' p 103 = 0 ∧ pI h' p 104 = 0) ∧ (pA h' p 106 = zf ∧ pA h' p 107 = zf ∧ pA h' p 108 = zf) ∧ hz h ≤ p := by
  subst e'
  obtain ⟨n1, ⟨o1, o2, o3, o4, o5⟩, ii, ⟨r1, r2, r3, r4⟩, ⟨l1, l2, l3, l4⟩, ⟨c1, c2, c3, c4⟩⟩ := hN
  have o1 : p + 1 ≤ a := o1
  have hE : EX h h1 := EXn.new hz0 n1
  have hEx := hE.2 x hx
  have e5 : hfR (wfR h1 f x p) 105 p = a := (up2_nx (by omega)).trans r1
  have e6 : hfR (wfR h1 f x p) 106 p = b := (up2_nx (by omega)).trans r2
  have e7 : hfR (wfR h1 f x p) 107 p = c := (up2_nx (by omega)).trans r3
  have e8 : hfR (wfR h1 f x p) 108 p = e := (up2_nx (by omega)).trans r4
  refine ⟨⟨hE.1, fun w hw => rfl, fun w hw hne => ?_, fun w hw _ => (hE.2 w hw).2.2.2.2⟩, ⟨fun g hg => (up2_nf hg).trans (hEx.2.1 g), up2_eq⟩, fun g => (hEx.1 g).trans (h0 g), ⟨?_, ?_⟩, ii, ⟨?_, ?_, ?_⟩, hz0⟩
  · obtain ⟨e1, e2, e3, e4, -⟩ := hE.2 w hw
    exact ⟨e1, fun g => (up2_nx hne).trans (e2 g), e3, e4⟩
  · unfold PP
    rw [e5, e6, e7, e8]
    exact ⟨⟨hzz, hK p hz0⟩, ⟨by omega, hK a (by omega), l1⟩, ⟨by omega, hK b (by omega), l2⟩, ⟨by omega, hK c (by omega), l3⟩, ⟨by omega, hK e (by omega), l4⟩⟩
  · unfold PZ
    rw [e5, e6, e7, e8]
    show p < hz h1 ∧ a < hz h1 ∧ b < hz h1 ∧ c < hz h1 ∧ e < hz h1
    exact ⟨by omega, by omega, by omega, by omega, by omega⟩
  · show haI h1 (hfR (wfR h1 f x p) 106 p) = zf
    rw [e6]; exact c2
  · show haI h1 (hfR (wfR h1 f x p) 107 p) = zf
    rw [e7]; exact c3
  · show haI h1 (hfR (wfR h1 f x p) 108 p) = zf
    rw [e8]; exact c4
end N5
section N6
variable {d x : Nat} {h : hp} {kk : Rt}
/-- a new search -/
def SEN (h h' : hp) (x s a b u v w : Nat) : Prop := EXn h h' x ∧ (hz h ≤ s ∧ s < a ∧ a < b ∧ b < u ∧ u < v ∧ v < w ∧ w < hz h') ∧ (hfR h' 400 x = s ∧ hfR h' 401 x = u ∧ hfR h' 402 x = v ∧ hfR h' 403 x = w) ∧ (hfR h' 500 s = a ∧ hfR h' 501 s = b) ∧ (haL h' a = 8 ∧ haL h' b = 4 ∧ haL h' u = 4 ∧ haL h' v = 4 ∧ haL h' w = 4)
def ASN (h h' : hp) (x a : Nat) : Prop := EXn h h' x ∧ (hz h ≤ a ∧ a < hz h') ∧ hfR h' 0 x = a ∧ haL h' a = 16 ∧ hfI h' 1 x = 0
set_option maxRecDepth 20000 in
theorem c_askInit (hk : ∀ h' a, ASN h h' (x + 1) a → kk none h') : CL (d + 1) mX0_init 1 16 [.inr (.inr (1, x + 1))] h kk := by
  refine mw T_X0_init (fun Wm go => go cut0 80 0 _ _ _ _ _ ?_)
  refine And.intro ⟨by decide, by decide⟩ (And.intro ⟨by decide, by decide⟩ (fun a ha => ?_))
  have ha : hz h ≤ a := ha
  refine hk _ a ⟨?_, ⟨ha, Nat.lt_succ_self a⟩, ?_, ?_, ?_⟩
  · exact EXnI (EXnI (EXnI (EXnI (EXnI (EXnR (EXnA (EXn.rf _ _) ha))))))
  · show up2 _ 0 (x + 1) a 0 (x + 1) = a
    rw [up2_eq]
  · show va_up _ a 16 a = 16
    rw [va_up_self]
  · show up2 (up2 (up2 (up2 (up2 _ 1 (x + 1) 0) 2 (x + 1) 0) 3 (x + 1) 0) 4 (x + 1) 0) 5 (x + 1) 0 1 (x + 1) = 0
    rw [up2_nf (by decide), up2_nf (by decide), up2_nf (by decide), up2_nf (by decide), up2_eq]
set_option maxRecDepth 20000 in
theorem c_searchInit (hx : x + 1 < hz h) (hk : ∀ h' s a b u v w, SEN h h' (x + 1) s a b u v w → kk none h') : CL (d + 2) mX4_init 11 61 [.inr (.inr (5, x + 1))] h kk := by
  refine mw T_X4_init (fun Wm go => go (cut2 12 44) 80 0 _ _ _ _ _ ?_)
  refine And.intro ⟨by decide, by decide⟩ (fun s hs => ?_)
  have hs : hz h ≤ s := hs
  obtain ⟨s, rfl⟩ : ∃ z, s = z + 1 := ⟨s - 1, by omega⟩
  refine And.intro ⟨by decide, by decide⟩ ?_
  refine c_stateInit (fun h1 a b hN => ?_)
  obtain ⟨n1, ⟨o1, o2, o3⟩, -, ⟨r1, r2⟩, ⟨l1, l2⟩, -⟩ := hN
  have o1 : s + 1 + 1 ≤ a := o1
  have hE : EX h h1 := EXn.new hs n1
  refine go (cut1 44) 80 12 _ _ _ _ _ ?_
  refine And.intro ⟨by decide, by decide⟩ (And.intro ⟨by decide, by decide⟩ (fun u hu => ?_))
  refine And.intro ⟨by decide, by decide⟩ (And.intro ⟨by decide, by decide⟩ (fun v hv => ?_))
  refine And.intro ⟨by decide, by decide⟩ (And.intro ⟨by decide, by decide⟩ (fun w hw => ?_))
  have hu : hz h1 ≤ u := hu
  have hv : u + 1 ≤ v := hv
  have hw : v + 1 ≤ w := hw
  refine And.intro ⟨by decide, by decide⟩ (fun p hpw => ?_)
  have hpw : w + 1 ≤ p := hpw
  obtain ⟨p, rfl⟩ : ∃ z, p = z + 1 := ⟨p - 1, by omega⟩
  refine And.intro ⟨by decide, by decide⟩ ?_
  obtain ⟨h3, e3⟩ : ∃ h3 : hp, h3 = wfR (warr (wfR (warr (wfR (warr (wfR h1 400 (x + 1) (s + 1)) u 4) 401 (x + 1) u) v 4) 402 (x + 1) v) w 4) 403 (x + 1) w := ⟨_, rfl⟩
  have hn3 : EXn h h3 (x + 1) := by
    rw [e3]
    exact EXnR (EXnA (EXnR (EXnA (EXnR (EXnA (EXnR (EXn.ex (EXn.rf h (x + 1)) hE)) hu)) hv)) hw)
  have z3 : hz h3 = w + 1 := by rw [e3]; rfl
  have f0 : hfR h3 400 (x + 1) = s + 1 := by
    rw [e3]
    show up2 (up2 (up2 (up2 _ 400 (x + 1) (s + 1)) 401 (x + 1) u) 402 (x + 1) v) 403 (x + 1) w 400 (x + 1) = _
    rw [up2_nf (by decide), up2_nf (by decide), up2_nf (by decide), up2_eq]
  have f1 : hfR h3 401 (x + 1) = u := by
    rw [e3]
    show up2 (up2 (up2 _ 401 (x + 1) u) 402 (x + 1) v) 403 (x + 1) w 401 (x + 1) = _
    rw [up2_nf (by decide), up2_nf (by decide), up2_eq]
  have f2 : hfR h3 402 (x + 1) = v := by
    rw [e3]
    show up2 (up2 _ 402 (x + 1) v) 403 (x + 1) w 402 (x + 1) = _
    rw [up2_nf (by decide), up2_eq]
  have f3 : hfR h3 403 (x + 1) = w := by
    rw [e3]
    show up2 _ 403 (x + 1) w 403 (x + 1) = _
    rw [up2_eq]
  have f5 : hfR h3 500 (s + 1) = a := by
    rw [e3]
    show up2 (up2 (up2 (up2 _ 400 (x + 1) (s + 1)) 401 (x + 1) u) 402 (x + 1) v) 403 (x + 1) w 500 (s + 1) = _
    rw [up2_nf (by decide), up2_nf (by decide), up2_nf (by decide), up2_nf (by decide)]; exact r1
  have f6 : hfR h3 501 (s + 1) = b := by
    rw [e3]
    show up2 (up2 (up2 (up2 _ 400 (x + 1) (s + 1)) 401 (x + 1) u) 402 (x + 1) v) 403 (x + 1) w 501 (s + 1) = _
    rw [up2_nf (by decide), up2_nf (by decide), up2_nf (by decide), up2_nf (by decide)]; exact r2
  have la : haL h3 a = 8 := by
    rw [e3]
    show va_up (va_up (va_up _ u 4) v 4) w 4 a = 8
    rw [va_up_ne _ _ (by omega), va_up_ne _ _ (by omega), va_up_ne _ _ (by omega)]; exact l1
  have lb : haL h3 b = 4 := by
    rw [e3]
    show va_up (va_up (va_up _ u 4) v 4) w 4 b = 4
    rw [va_up_ne _ _ (by omega), va_up_ne _ _ (by omega), va_up_ne _ _ (by omega)]; exact l2
  have lu : haL h3 u = 4 := by
    rw [e3]
    show va_up (va_up (va_up _ u 4) v 4) w 4 u = 4
    rw [va_up_ne _ _ (by omega), va_up_ne _ _ (by omega), va_up_self]
  have lv : haL h3 v = 4 := by
    rw [e3]
    show va_up (va_up _ v 4) w 4 v = 4
    rw [va_up_ne _ _ (by omega), va_up_self]
  have lw : haL h3 w = 4 := by
    rw [e3]
    show va_up _ w 4 w = 4
    rw [va_up_self]
  have hk := fun h' hN => hk h' (s + 1) a b u v w hN
  refine c_planInit (fun h4 a' b' c' e' hN => ?_)
  have hN4 : EXn (wobj h3 (p + 1)) h4 (p + 1) := by rw [e3]; exact hN.1
  have hE4 : EX h3 h4 := EXn.new (by omega) hN4
  refine go cut0 60 44 _ _ _ _ _ ?_
  have q : ∀ z, z ≠ x + 1 → z < hz h3 → haL (wfI (wfI (wfR h4 404 (x + 1) (p + 1)) 405 (x + 1) 0) 406 (x + 1) (-1)) z = haL h3 z := fun z _ hz' => (hE4.2 z hz').2.2.2.1
  have hl4 := hE4.1
  refine hk _ ⟨EXnI (EXnI (EXnR (EXn.ex hn3 hE4))), ⟨hs, by omega, o2, by omega, by omega, by omega, by show w < hz h4; omega⟩, ⟨?_, ?_, ?_, ?_⟩, ⟨?_, ?_⟩, ⟨?_, ?_, ?_, ?_, ?_⟩⟩
  · show up2 h4.2.1 404 (x + 1) (p + 1) 400 (x + 1) = _
    rw [up2_nf (by decide)]; exact ((hE4.2 (x + 1) (by have := hn3.1; omega)).2.1 400).trans f0
  · show up2 h4.2.1 404 (x + 1) (p + 1) 401 (x + 1) = _
    rw [up2_nf (by decide)]; exact ((hE4.2 (x + 1) (by have := hn3.1; omega)).2.1 401).trans f1
  · show up2 h4.2.1 404 (x + 1) (p + 1) 402 (x + 1) = _
    rw [up2_nf (by decide)]; exact ((hE4.2 (x + 1) (by have := hn3.1; omega)).2.1 402).trans f2
  · show up2 h4.2.1 404 (x + 1) (p + 1) 403 (x + 1) = _
    rw [up2_nf (by decide)]; exact ((hE4.2 (x + 1) (by have := hn3.1; omega)).2.1 403).trans f3
  · show up2 h4.2.1 404 (x + 1) (p + 1) 500 (s + 1) = _
    rw [up2_nf (by decide)]; exact ((hE4.2 (s + 1) (by omega)).2.1 500).trans f5
  · show up2 h4.2.1 404 (x + 1) (p + 1) 501 (s + 1) = _
    rw [up2_nf (by decide)]; exact ((hE4.2 (s + 1) (by omega)).2.1 501).trans f6
  · exact (q a (by omega) (by omega)).trans la
  · exact (q b (by omega) (by omega)).trans lb
  · exact (q u (by omega) (by omega)).trans lu
  · exact (q v (by omega) (by omega)).trans lv
  · exact (q w (by omega) (by omega)).trans lw
end N6
