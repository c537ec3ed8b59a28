/-! ===== the class: new plans, states, readers ===== -/
/-- all that was, but x, is as it was -/
def EXn (h h' : hp) (x : Nat) : Prop := hz h ≤ hz h' ∧ ∀ z, z < hz h → z ≠ x → (∀ f, hfI h' f z = hfI h f z) ∧ (∀ f, hfR h' f z = hfR h f z) ∧ haI h' z = haI h z ∧ haL h' z = haL h z ∧ haR h' z = haR h z
def PLN (h h' : hp) (x a b c e g : Nat) : Prop := EXn h h' x ∧ (hz h ≤ a ∧ a < b ∧ b < c ∧ c < e ∧ e < g ∧ g < hz h') ∧ (hfI h' 100 x = 0 ∧ hfI h' 101 x = 0 ∧ hfI h' 102 x = 0 ∧ hfI h' 103 x = 0 ∧ hfI h' 104 x = 0) ∧ (hfR h' 105 x = a ∧ hfR h' 106 x = b ∧ hfR h' 107 x = c ∧ hfR h' 108 x = e ∧ hfR h' 109 x = g) ∧ (haL h' a = 8 ∧ haL h' b = 8 ∧ haL h' c = 8 ∧ haL h' e = 4 ∧ haL h' g = 4) ∧ (haI h' a = zf ∧ haI h' b = zf ∧ haI h' c = zf ∧ haI h' e = zf ∧ haI h' g = zf)
def STN (h h' : hp) (x a b : Nat) : Prop := EXn h h' x ∧ (hz h ≤ a ∧ a < b ∧ b < hz h') ∧ (hfI h' 502 x = 0 ∧ hfI h' 503 x = 0) ∧ (hfR h' 500 x = a ∧ hfR h' 501 x = b) ∧ (haL h' a = 8 ∧ haL h' b = 4) ∧ (haI h' a = zf ∧ haI h' b = zf)
section N1
variable {h h' : hp} {x a m f : Nat}
theorem EXn.rf (h : hp) (x : Nat) : EXn h h x := ⟨Nat.le_refl _, fun _ _ _ => ⟨fun _ => rfl, fun _ => rfl, rfl, rfl, rfl⟩⟩
theorem EXnI {v : Int32} (e : EXn h h' x) : EXn h (wfI h' f x v) x := ⟨e.1, fun z z1 z2 => by
  obtain ⟨e1, e2, e3, e4, e5⟩ := e.2 z z1 z2
  exact ⟨fun f => (up2_nx z2).trans (e1 f), e2, e3, e4, e5⟩⟩
theorem EXnR {v : Nat} (e : EXn h h' x) : EXn h (wfR h' f x v) x := ⟨e.1, fun z z1 z2 => by
  obtain ⟨e1, e2, e3, e4, e5⟩ := e.2 z z1 z2
  exact ⟨e1, fun f => (up2_nx z2).trans (e2 f), e3, e4, e5⟩⟩
theorem EXnA (e : EXn h h' x) (ha : hz h' ≤ a) : EXn h (warr h' a m) x := ⟨Nat.le_trans e.1 (Nat.le_succ_of_le ha), fun z z1 z2 => by
  have h1 := e.1
  have h2 : z ≠ a := by omega
  obtain ⟨e1, e2, e3, e4, e5⟩ := e.2 z z1 z2
  exact ⟨e1, e2, (va_up_ne _ _ h2).trans e3, (va_up_ne _ _ h2).trans e4, (va_up_ne _ _ h2).trans e5⟩⟩
/-- made by new, then by its constructor: nothing that was has changed -/
theorem EXn.new {H : hp} (hx : hz H ≤ x) (e : EXn (wobj H x) h' x) : EX H h' := ⟨Nat.le_trans (Nat.le_succ_of_le hx) e.1, fun z z1 => by
  have h2 : z ≠ x := by omega
  obtain ⟨e1, e2, e3, e4, e5⟩ := e.2 z (by show z < x + 1; omega) h2
  exact ⟨fun f => (e1 f).trans (if_neg h2), fun f => (e2 f).trans (if_neg h2), e3, e4, e5⟩⟩
theorem EXn.ex {h'' : hp} (e : EXn h h' x) (e2 : EX h' h'') : EXn h h'' x := ⟨Nat.le_trans e.1 e2.1, fun z z1 z2 => by
  have h1 := e.1
  obtain ⟨x1, x2, x3, x4, x5⟩ := e.2 z z1 z2
  obtain ⟨y1, y2, y3, y4, y5⟩ := e2.2 z (by omega)
  exact ⟨fun f => (y1 f).trans (x1 f), fun f => (y2 f).trans (x2 f), y3.trans x3, y4.trans x4, y5.trans x5⟩⟩
end N1
section N2
variable {d x : Nat} {h : hp} {kk : Rt}
set_option maxRecDepth 20000 in
theorem c_planInit (hk : ∀ h' a b c e g, PLN h h' (x + 1) a b c e g → kk none h') : CL (d + 1) mX1_init 5 32 [.inr (.inr (2, x + 1))] h kk := by
  refine mw T_X1_init (fun Wm go => go cut0 80 0 _ _ _ _ _ ?_)
  refine And.intro ⟨by decide, by decide⟩ (And.intro ⟨by decide, by decide⟩ (fun a ha => ?_))
  refine And.intro ⟨by decide, by decide⟩ (And.intro ⟨by decide, by decide⟩ (fun b hb => ?_))
  refine And.intro ⟨by decide, by decide⟩ (And.intro ⟨by decide, by decide⟩ (fun c hc => ?_))
  refine And.intro ⟨by decide, by decide⟩ (And.intro ⟨by decide, by decide⟩ (fun e he => ?_))
  refine And.intro ⟨by decide, by decide⟩ (And.intro ⟨by decide, by decide⟩ (fun g hg => ?_))
  have ha : hz h ≤ a := ha
  have hb : a + 1 ≤ b := hb
  have hc : b + 1 ≤ c := hc
  have he : c + 1 ≤ e := he
  have hg : e + 1 ≤ g := hg
  refine hk _ a b c e g ⟨?_, ⟨ha, by omega, by omega, by omega, by omega, Nat.lt_succ_self g⟩, ⟨?_, ?_, ?_, ?_, ?_⟩, ⟨?_, ?_, ?_, ?_, ?_⟩, ⟨?_, ?_, ?_, ?_, ?_⟩, ⟨?_, ?_, ?_, ?_, ?_⟩⟩
  · exact EXnR (EXnA (EXnR (EXnA (EXnR (EXnA (EXnR (EXnA (EXnR (EXnA (EXnI (EXnI (EXnI (EXnI (EXnI (EXn.rf _ _)))))) ha)) hb)) hc)) he)) hg)
  · show up2 (up2 (up2 (up2 (up2 _ 100 (x + 1) 0) 101 (x + 1) 0) 102 (x + 1) 0) 103 (x + 1) 0) 104 (x + 1) 0 100 (x + 1) = 0
    rw [up2_nf (by decide), up2_nf (by decide), up2_nf (by decide), up2_nf (by decide), up2_eq]
  · show up2 (up2 (up2 (up2 _ 101 (x + 1) 0) 102 (x + 1) 0) 103 (x + 1) 0) 104 (x + 1) 0 101 (x + 1) = 0
    rw [up2_nf (by decide), up2_nf (by decide), up2_nf (by decide), up2_eq]
  · show up2 (up2 (up2 _ 102 (x + 1) 0) 103 (x + 1) 0) 104 (x + 1) 0 102 (x + 1) = 0
    rw [up2_nf (by decide), up2_nf (by decide), up2_eq]
  · show up2 (up2 _ 103 (x + 1) 0) 104 (x + 1) 0 103 (x + 1) = 0
    rw [up2_nf (by decide), up2_eq]
  · show up2 _ 104 (x + 1) 0 104 (x + 1) = 0
    rw [up2_eq]
  · show up2 (up2 (up2 (up2 (up2 _ 105 (x + 1) a) 106 (x + 1) b) 107 (x + 1) c) 108 (x + 1) e) 109 (x + 1) g 105 (x + 1) = a
    rw [up2_nf (by decide), up2_nf (by decide), up2_nf (by decide), up2_nf (by decide), up2_eq]
  · show up2 (up2 (up2 (up2 _ 106 (x + 1) b) 107 (x + 1) c) 108 (x + 1) e) 109 (x + 1) g 106 (x + 1) = b
    rw [up2_nf (by decide), up2_nf (by decide), up2_nf (by decide), up2_eq]
  · show up2 (up2 (up2 _ 107 (x + 1) c) 108 (x + 1) e) 109 (x + 1) g 107 (x + 1) = c
    rw [up2_nf (by decide), up2_nf (by decide), up2_eq]
  · show up2 (up2 _ 108 (x + 1) e) 109 (x + 1) g 108 (x + 1) = e
    rw [up2_nf (by decide), up2_eq]
  · show up2 _ 109 (x + 1) g 109 (x + 1) = g
    rw [up2_eq]
  · show va_up (va_up (va_up (va_up (va_up _ a 8) b 8) c 8) e 4) g 4 a = 8
    rw [va_up_ne _ _ (by omega), va_up_ne _ _ (by omega), va_up_ne _ _ (by omega), va_up_ne _ _ (by omega), va_up_self]
  · show va_up (va_up (va_up (va_up _ b 8) c 8) e 4) g 4 b = 8
    rw [va_up_ne _ _ (by omega), va_up_ne _ _ (by omega), va_up_ne _ _ (by omega), va_up_self]
  · show va_up (va_up (va_up _ c 8) e 4) g 4 c = 8
    rw [va_up_ne _ _ (by omega), va_up_ne _ _ (by omega), va_up_self]
  · show va_up (va_up _ e 4) g 4 e = 4
    rw [va_up_ne _ _ (by omega), va_up_self]
  · show va_up _ g 4 g = 4
    rw [va_up_self]
  · show va_up (va_up (va_up (va_up (va_up _ a zf) b zf) c zf) e zf) g zf a = zf
    rw [va_up_ne _ _ (by omega), va_up_ne _ _ (by omega), va_up_ne _ _ (by omega), va_up_ne _ _ (by omega), va_up_self]
  · show va_up (va_up (va_up (va_up _ b zf) c zf) e zf) g zf b = zf
    rw [va_up_ne _ _ (by omega), va_up_ne _ _ (by omega), va_up_ne _ _ (by omega), va_up_self]
  · show va_up (va_up (va_up _ c zf) e zf) g zf c = zf
    rw [va_up_ne _ _ (by omega), va_up_ne _ _ (by omega), va_up_self]
  · show va_up (va_up _ e zf) g zf e = zf
    rw [va_up_ne _ _ (by omega), va_up_self]
  · show va_up _ g zf g = zf
    rw [va_up_self]
set_option maxRecDepth 20000 in
theorem c_stateInit (hk : ∀ h' a b, STN h h' (x + 1) a b → kk none h') : CL (d + 1) mX5_init 2 12 [.inr (.inr (6, x + 1))] h kk := by
  refine mw T_X5_init (fun Wm go => go cut0 80 0 _ _ _ _ _ ?_)
  refine And.intro ⟨by decide, by decide⟩ (And.intro ⟨by decide, by decide⟩ (fun a ha => ?_))
  refine And.intro ⟨by decide, by decide⟩ (And.intro ⟨by decide, by decide⟩ (fun b hb => ?_))
  have ha : hz h ≤ a := ha
  have hb : a + 1 ≤ b := hb
  refine hk _ a b ⟨?_, ⟨ha, by omega, Nat.lt_succ_self b⟩, ⟨?_, ?_⟩, ⟨?_, ?_⟩, ⟨?_, ?_⟩, ⟨?_, ?_⟩⟩
  · exact EXnI (EXnI (EXnR (EXnA (EXnR (EXnA (EXn.rf _ _) ha)) hb)))
  · show up2 (up2 _ 502 (x + 1) 0) 503 (x + 1) 0 502 (x + 1) = 0
    rw [up2_nf (by decide), up2_eq]
  · show up2 _ 503 (x + 1) 0 503 (x + 1) = 0
    rw [up2_eq]
  · show up2 (up2 _ 500 (x + 1) a) 501 (x + 1) b 500 (x + 1) = a
    rw [up2_nf (by decide), up2_eq]
  · show up2 _ 501 (x + 1) b 501 (x + 1) = b
    rw [up2_eq]
  · show va_up (va_up _ a 8) b 4 a = 8
    rw [va_up_ne _ _ (by omega), va_up_self]
  · show va_up _ b 4 b = 4
    rw [va_up_self]
  · show va_up (va_up _ a zf) b zf a = zf
    rw [va_up_ne _ _ (by omega), va_up_self]
  · show va_up _ b zf b = zf
    rw [va_up_self]
/-- a new row at x -/
def RON (h h' : hp) (x a : Nat) : Prop := EXn h h' x ∧ (hz h ≤ a ∧ a < hz h') ∧ hfR h' 300 x = a ∧ haL h' a = 40 ∧ hfI h' 302 x = -1
set_option maxRecDepth 20000 in
theorem c_rowInit (hk : ∀ h' a, RON h h' (x + 1) a → kk none h') : CL (d + 1) mX3_init 1 40 [.inr (.inr (4, x + 1))] h kk := by
  refine mw T_X3_init (fun Wm go => go cut0 80 0 _ _ _ _ _ ?_)
  refine And.intro ⟨by decide, by decide⟩ (And.intro ⟨by decide, by decide⟩ (fun a ha => ?_))
  have ha : hz h ≤ a := ha
  refine hk _ a ⟨?_, ⟨ha, Nat.lt_succ_self a⟩, ?_, ?_, ?_⟩
  · exact EXnI (EXnI (EXnR (EXnA (EXn.rf _ _) ha)))
  · show up2 _ 300 (x + 1) a 300 (x + 1) = a
    rw [up2_eq]
  · show va_up _ a 40 a = 40
    rw [va_up_self]
  · show up2 _ 302 (x + 1) (-1) 302 (x + 1) = -1
    rw [up2_eq]
/-- a new reader at x, its plan at p, its tape at t -/
def RDN (h h' : hp) (x p a b c e g t : Nat) : Prop := EXn h h' x ∧ (hz h ≤ p ∧ p < a ∧ a < b ∧ b < c ∧ c < e ∧ e < g ∧ g < t ∧ t < hz h') ∧ (hfR h' 105 p = a ∧ hfR h' 106 p = b ∧ hfR h' 107 p = c ∧ hfR h' 108 p = e ∧ hfR h' 109 p = g) ∧ (haL h' a = 8 ∧ haL h' b = 8 ∧ haL h' c = 8 ∧ haL h' e = 4 ∧ haL h' g = 4) ∧ (hfR h' 200 x = p ∧ hfR h' 201 x = t ∧ haL h' t = 120 ∧ haI h' t = zf ∧ hfI h' 202 x = 0)
set_option maxRecDepth 20000 in
theorem c_readerInit (hx : x + 1 < hz h) (hk : ∀ h' p a b c e g t, RDN h h' (x + 1) p a b c e g t → kk none h') : CL (d + 2) mX2_init 7 162 [.inr (.inr (3, x + 1))] h kk := by
  refine mw T_X2_init (fun Wm go => go (cut1 12) 80 0 _ _ _ _ _ ?_)
  refine And.intro ⟨by decide, by decide⟩ (fun p hp => ?_)
  have hp : hz h ≤ p := hp
  obtain ⟨p, rfl⟩ : ∃ z, p = z + 1 := ⟨p - 1, by omega⟩
  refine And.intro ⟨by decide, by decide⟩ ?_
  refine c_planInit (fun h' a b c e g hN => ?_)
  obtain ⟨n1, ⟨o1, o2, o3, o4, o5, o6⟩, -, ⟨r5, r6, r7, r8, r9⟩, ⟨l5, l6, l7, l8, l9⟩, -⟩ := hN
  have hE : EX h h' := EXn.new hp n1
  have o1 : p + 1 + 1 ≤ a := o1
  have z1 := hE.1
  refine go cut0 60 12 _ _ _ _ _ ?_
  refine And.intro ⟨by decide, by decide⟩ (And.intro ⟨by decide, by decide⟩ (fun t ht => ?_))
  have ht : hz h' ≤ t := ht
  refine hk _ (p + 1) a b c e g t ⟨?_, ⟨hp, by omega, o2, o3, o4, o5, by omega, Nat.lt_succ_self t⟩, ⟨?_, ?_, ?_, ?_, ?_⟩, ⟨?_, ?_, ?_, ?_, ?_⟩, ?_, ?_, ?_, ?_, ?_⟩
  · exact EXnI (EXnI (EXnI (EXnR (EXnA (EXnR (EXn.ex (EXn.rf h (x + 1)) hE)) ht))))
  · show up2 (up2 _ 200 (x + 1) (p + 1)) 201 (x + 1) t 105 (p + 1) = a
    rw [up2_nf (by decide), up2_nf (by decide)]; exact r5
  · show up2 (up2 _ 200 (x + 1) (p + 1)) 201 (x + 1) t 106 (p + 1) = b
    rw [up2_nf (by decide), up2_nf (by decide)]; exact r6
  · show up2 (up2 _ 200 (x + 1) (p + 1)) 201 (x + 1) t 107 (p + 1) = c
    rw [up2_nf (by decide), up2_nf (by decide)]; exact r7
  · show up2 (up2 _ 200 (x + 1) (p + 1)) 201 (x + 1) t 108 (p + 1) = e
    rw [up2_nf (by decide), up2_nf (by decide)]; exact r8
  · show up2 (up2 _ 200 (x + 1) (p + 1)) 201 (x + 1) t 109 (p + 1) = g
    rw [up2_nf (by decide), up2_nf (by decide)]; exact r9
  · exact (va_up_ne _ _ (by omega)).trans l5
  · exact (va_up_ne _ _ (by omega)).trans l6
  · exact (va_up_ne _ _ (by omega)).trans l7
  · exact (va_up_ne _ _ (by omega)).trans l8
  · exact (va_up_ne _ _ (by omega)).trans l9
  · show up2 (up2 _ 200 (x + 1) (p + 1)) 201 (x + 1) t 200 (x + 1) = p + 1
    rw [up2_nf (by decide), up2_eq]
  · show up2 (up2 _ 200 (x + 1) (p + 1)) 201 (x + 1) t 201 (x + 1) = t
    rw [up2_eq]
  · show va_up _ t 120 t = 120
    rw [va_up_self]
  · show va_up _ t zf t = zf
    rw [va_up_self]
  · show up2 (up2 (up2 _ 202 (x + 1) 0) 203 (x + 1) 0) 204 (x + 1) 0 202 (x + 1) = 0
    rw [up2_nf (by decide), up2_nf (by decide), up2_eq]
end N2
