/-! ===== the class: new plans, states, readers ===== -/
/-- all that was, but x, is as it was -/
def EXn (h h' : hp) (x : Nat) : Prop := hz h ≤ hz h' ∧ ∀ z, z < hz h → z ≠ x → (∀ f, hfI h' f z = hfI h f z) ∧ (∀ f, hfR h' f z = hfR h f z) ∧ haI h' z = haI h z ∧ haL h' z = haL h z ∧ haR h' z = haR h z
def PLN (h h' : hp) (x a b c e : Nat) : Prop := EXn h h' x ∧ (hz h ≤ a ∧ a < b ∧ b < c ∧ c < e ∧ e < hz h') ∧ (hfI h' 100 x = 0 ∧ hfI h' 101 x = 0 ∧ hfI h' 102 x = 0 ∧ hfI h' 103 x = 0 ∧ hfI h' 104 x = 0) ∧ (hfR h' 105 x = a ∧ hfR h' 106 x = b ∧ hfR h' 107 x = c ∧ hfR h' 108 x = e) ∧ (haL h' a = 8 ∧ haL h' b = 8 ∧ haL h' c = 4 ∧ haL h' e = 4) ∧ (haI h' a = zf ∧ haI h' b = zf ∧ haI h' c = zf ∧ haI h' e = zf)
def STN (h h' : hp) (x a b : Nat) : Prop := EXn h h' x ∧ (hz h ≤ a ∧ a < b ∧ b < hz h') ∧ (hfI h' 502 x = 0 ∧ hfI h' 503 x = 0) ∧ (hfR h' 500 x = a ∧ hfR h' 501 x = b) ∧ (haL h' a = 8 ∧ haL h' b = 4) ∧ (haI h' a = zf ∧ haI h' b = zf)
section N1
variable {h h' : hp} {x a m f : Nat}
theorem EXn.rf (h : hp) (x : Nat) : EXn h h x := ⟨Nat.le_refl _, fun _ _ _ => ⟨fun _ => rfl, fun _ => rfl, rfl, rfl, rfl⟩⟩
theorem EXnI {v : Int32} (e : EXn h h' x) : EXn h (wfI h' f x v) x := ⟨e.1, fun z z1 z2 => by
  obtain ⟨e1, e2, e3, e4, e5⟩ := e.2 z z1 z2
  exact ⟨fun f => (up2_nx z2).trans (e1 f), e2, e3, e4, e5⟩⟩
theorem EXnR {v : Nat} (e : EXn h h' x) : EXn h (wfR h' f x v) x := ⟨e.1, fun z z1 z2 => by
  obtain ⟨e1, e2, e3, e4, e5⟩ := e.2 z z1 z2
  exact ⟨e1, fun f => (up2_nx z2).trans (e2 f), e3, e4, e5⟩⟩
theorem EXnA (e : EXn h h' x) (ha : hz h' ≤ a) : EXn h (warr h' a m) x := ⟨Nat.le_trans e.1 (Nat.le_succ_of_le ha), fun z z1 z2 => by
  have h1 := e.1
  have h2 : z ≠ a := by omega
  obtain ⟨e1, e2, e3, e4, e5⟩ := e.2 z z1 z2
  exact ⟨e1, e2, (va_up_ne _ _ h2).trans e3, (va_up_ne _ _ h2).trans e4, (va_up_ne _ _ h2).trans e5⟩⟩
/-- made by new, then by its constructor: nothing that was has changed -/
theorem EXn.new {H : hp} (hx : hz H ≤ x) (e : EXn (wobj H x) h' x) : EX H h' := ⟨Nat.le_trans (Nat.le_succ_of_le hx) e.1, fun z z1 => by
  have h2 : z ≠ x := by omega
  obtain ⟨e1, e2, e3, e4, e5⟩ := e.2 z (by show z < x + 1; omega) h2
  exact ⟨fun f => (e1 f).trans (if_neg h2), fun f => (e2 f).trans (if_neg h2), e3, e4, e5⟩⟩
theorem EXn.ex {h'' : hp} (e : EXn h h' x) (e2 : EX h' h'') : EXn h h'' x := ⟨Nat.le_trans e.1 e2.1, fun z z1 z2 => by
  have h1 := e.1
  obtain ⟨x1, x2, x3, x4, x5⟩ := e.2 z z1 z2
  obtain ⟨y1, y2, y3, y4, y5⟩ := e2.2 z (by omega)
  exact ⟨fun f => (y1 f).trans (x1 f), fun f => (y2 f).trans (x2 f), y3.trans x3, y4.trans x4, y5.trans x5⟩⟩
end N1
section N2
variable {d x : Nat} {h : hp} {kk : Rt}
set_option maxRecDepth 20000 in
theorem c_planInit (hk : ∀ h' a b c e, PLN h h' (x + 1) a b c e → kk none h') : CL (d + 1) mX1_init 4 24 [.inr (.inr (2, x + 1))] h kk := by
  refine mw T_X1_init (fun Wm go => go cut0 80 0 _ _ _ _ _ ?_)
  refine And.intro ⟨by decide, by decide⟩ (And.intro ⟨by decide, by decide⟩ (fun a ha => ?_))
  refine And.intro ⟨by decide, by decide⟩ (And.intro ⟨by decide, by decide⟩ (fun b hb => ?_))
  refine And.intro ⟨by decide, by decide⟩ (And.intro ⟨by decide, by decide⟩ (fun c hc => ?_))
  refine And.intro ⟨by decide, by decide⟩ (And.intro ⟨by decide, by decide⟩ (fun e he => ?_))
  have ha : hz h ≤ a := ha
  have hb : a + 1 ≤ b := hb
  have hc : b + 1 ≤ c := hc
  have he : c + 1 ≤ e := he
  refine hk _ a b c e ⟨?_, ⟨ha, by omega, by omega, by omega, Nat.lt_succ_self e⟩, ⟨?_, ?_, ?_, ?_, ?_⟩, ⟨?_, ?_, ?_, ?_⟩, ⟨?_, ?_, ?_, ?_⟩, ⟨?_, ?_, ?_, ?_⟩⟩
  · exact EXnR (EXnA (EXnR (EXnA (EXnR (EXnA (EXnR (EXnA (EXnI (EXnI (EXnI (EXnI (EXnI (EXn.rf _ _)))))) ha)) hb)) hc)) he)
  · show up2 (up2 (up2 (up2 (up2 _ 100 (x + 1) 0) 101 (x + 1) 0) 102 (x + 1) 0) 103 (x + 1) 0) 104 (x + 1) 0 100 (x + 1) = 0
    rw [up2_nf (by decide), up2_nf (by decide), up2_nf (by decide), up2_nf (by decide), up2_eq]
  · show up2 (up2 (up2 (up2 _ 101 (x + 1) 0) 102 (x + 1) 0) 103 (x + 1) 0) 104 (x + 1) 0 101 (x + 1) = 0
    rw [up2_nf (by decide), up2_nf (by decide), up2_nf (by decide), up2_eq]
  · show up2 (up2 (up2 _ 102 (x + 1) 0) 103 (x + 1) 0) 104 (x + 1) 0 102 (x + 1) = 0
    rw [up2_nf (by decide), up2_nf (by decide), up2_eq]
  · show up2 (up2 _ 103 (x + 1) 0) 104 (x + 1) 0 103 (x + 1) = 0
    rw [up2_nf (by decide), up2_eq]
  · show up2 _ 104 (x + 1) 0 104 (x + 1) = 0
    rw [up2_eq]
  · show up2 (up2 (up2 (up2 _ 105 (x + 1) a) 106 (x + 1) b) 107 (x + 1) c) 108 (x + 1) e 105 (x + 1) = a
    rw [up2_nf (by decide), up2_nf (by decide), up2_nf (by decide), up2_eq]
  · show up2 (up2 (up2 _ 106 (x + 1) b) 107 (x + 1) c) 108 (x + 1) e 106 (x + 1) = b
    rw [up2_nf (by decide), up2_nf (by decide), up2_eq]
  · show up2 (up2 _ 107 (x + 1) c) 108 (x + 1) e 107 (x + 1) = c
    rw [up2_nf (by decide), up2_eq]
  · show up2 _ 108 (x + 1) e 108 (x + 1) = e
    rw [up2_eq]
  · show va_up (va_up (va_up (va_up _ a 8) b 8) c 4) e 4 a = 8
    rw [va_up_ne _ _ (by omega), va_up_ne _ _ (by omega), va_up_ne _ _ (by omega), va_up_self]
  · show va_up (va_up (va_up _ b 8) c 4) e 4 b = 8
    rw [va_up_ne _ _ (by omega), va_up_ne _ _ (by omega), va_up_self]
  · show va_up (va_up _ c 4) e 4 c = 4
    rw [va_up_ne _ _ (by omega), va_up_self]
  · show va_up _ e 4 e = 4
    rw [va_up_self]
  · show va_up (va_up (va_up (va_up _ a zf) b zf) c zf) e zf a = zf
    rw [va_up_ne _ _ (by omega), va_up_ne _ _ (by omega), va_up_ne _ _ (by omega), va_up_self]
  · show va_up (va_up (va_up _ b zf) c zf) e zf b = zf
    rw [va_up_ne _ _ (by omega), va_up_ne _ _ (by omega), va_up_self]
  · show va_up (va_up _ c zf) e zf c = zf
    rw [va_up_ne _ _ (by omega), va_up_self]
  · show va_up _ e zf e = zf
    rw [va_up_self]
set_option maxRecDepth 20000 in
theorem c_stateInit (hk : ∀ h' a b, STN h h' (x + 1) a b → kk none h') : CL (d + 1) mX5_init 2 12 [.inr (.inr (6, x + 1))] h kk := by
  refine mw T_X5_init (fun Wm go => go cut0 80 0 _ _ _ _ _ ?_)
  refine And.intro ⟨by decide, by decide⟩ (And.intro ⟨by decide, by decide⟩ (fun a ha => ?_))
  refine And.intro ⟨by decide, by decide⟩ (And.intro ⟨by decide, by decide⟩ (fun b hb => ?_))
  have ha : hz h ≤ a := ha
  have hb : a + 1 ≤ b := hb
  refine hk _ a b ⟨?_, ⟨ha, by omega, Nat.lt_succ_self b⟩, ⟨?_, ?_⟩, ⟨?_, ?_⟩, ⟨?_, ?_⟩, ⟨?_, ?_⟩⟩
  · exact EXnI (EXnI (EXnR (EXnA (EXnR (EXnA (EXn.rf _ _) ha)) hb)))
  · show up2 (up2 _ 502 (x + 1) 0) 503 (x + 1) 0 502 (x + 1) = 0
    rw [up2_nf (by decide), up2_eq]
  · show up2 _ 503 (x + 1) 0 503 (x + 1) = 0
    rw [up2_eq]
  · show up2 (up2 _ 500 (x + 1) a) 501 (x + 1) b 500 (x + 1) = a
    rw [up2_nf (by decide), up2_eq]
  · show up2 _ 501 (x + 1) b 501 (x + 1) = b
    rw [up2_eq]
  · show va_up (va_up _ a 8) b 4 a = 8
    rw [va_up_ne _ _ (by omega), va_up_self]
  · show va_up _ b 4 b = 4
    rw [va_up_self]
  · show va_up (va_up _ a zf) b zf a = zf
    rw [va_up_ne _ _ (by omega), va_up_self]
  · show va_up _ b zf b = zf
    rw [va_up_self]
/-- a new reader at x over the tape t, its plan at p -/
def RDN (h h' : hp) (x t Bn : Nat) : Prop := ∃ p a b c e, EXn h h' x ∧ (hz h ≤ p ∧ p < a ∧ a < b ∧ b < c ∧ c < e ∧ e < hz h') ∧ (hfI h' 100 p = 0 ∧ hfI h' 101 p = 0 ∧ hfI h' 102 p = 0 ∧ hfI h' 103 p = 0 ∧ hfI h' 104 p = 0) ∧ (hfR h' 105 p = a ∧ hfR h' 106 p = b ∧ hfR h' 107 p = c ∧ hfR h' 108 p = e) ∧ (haL h' a = 8 ∧ haL h' b = 8 ∧ haL h' c = 4 ∧ haL h' e = 4) ∧ (haI h' a = zf ∧ haI h' b = zf ∧ haI h' c = zf ∧ haI h' e = zf) ∧ (hfR h' 200 x = p ∧ hfR h' 201 x = t ∧ hfI h' 202 x = nI Bn ∧ hfI h' 203 x = 0 ∧ hfI h' 204 x = 0)
set_option maxRecDepth 20000 in
theorem c_readerInit {t Bn : Nat} (hx : x + 1 < hz h) (ht : t ≠ 0 ∧ t < hz h ∧ haL h t = 120) (hB : Bn ≤ 120) (hk : ∀ h', RDN h h' (x + 1) t Bn → kk none h') : CL (d + 2) mX2_init 5 33 [.inr (.inr (3, x + 1)), .inr (.inr (20, t)), .inl (nI Bn)] h kk := by
  refine mw T_X2_init (fun Wm go => go (cut1 12) 80 0 _ _ _ _ _ ?_)
  refine And.intro ⟨by decide, by decide⟩ (fun p hp => ?_)
  have hp : hz h ≤ p := hp
  obtain ⟨p, rfl⟩ : ∃ z, p = z + 1 := ⟨p - 1, by omega⟩
  refine And.intro ⟨by decide, by decide⟩ ?_
  refine c_planInit (fun h' a b c e hN => ?_)
  obtain ⟨n1, ⟨o1, o2, o3, o4, o5⟩, ⟨i0, i1, i2, i3, i4⟩, ⟨r5, r6, r7, r8⟩, nL, nA⟩ := hN
  have hE : EX h h' := EXn.new hp n1
  have o1 : p + 1 + 1 ≤ a := o1
  have e : (if nI 120 < nI Bn then nI 120 else nI Bn) = nI Bn := by
    rw [if_neg]
    exact Int32.not_lt.mpr ((nI_leI (b := 120) (by omega) (by omega)).mpr hB)
  refine go (cut1 37) 60 12 _ _ _ _ _ ?_
  refine nz ht.1 ?_
  have el : haL h' t = 120 := ((hE.2 t ht.2.1).2.2.2.1).trans ht.2.2
  refine wms (Wm := Wm) (L' := [some (.inr (.inr (3, x + 1))), some (.inr (.inr (20, t))), some (.inl (nI Bn))]) (S' := [.inl (nI Bn), .inr (.inr (3, x + 1))]) (h' := wfR (wfI (wfI (wfR h' 200 (x + 1) (p + 1)) 203 (x + 1) 0) 204 (x + 1) 0) 201 (x + 1) t) ?_ rfl ?_ rfl
  rotate_left
  · show [Sum.inl (if nI (haL h' t) < nI Bn then nI (haL h' t) else nI Bn), Sum.inr (Sum.inr (3, x + 1))] = _
    rw [el, e]
  refine go cut0 20 37 _ _ _ _ _ ?_
  refine hk _ ⟨p + 1, a, b, c, _, ?_, ⟨hp, by omega, o2, o3, o4, o5⟩, ⟨?_, ?_, ?_, ?_, ?_⟩, ⟨?_, ?_, ?_, ?_⟩, nL, nA, ?_, ?_, ?_, ?_, ?_⟩
  · exact EXnI (EXnR (EXnI (EXnI (EXnR (EXn.ex (EXn.rf h (x + 1)) hE)))))
  · show up2 (up2 (up2 _ 203 (x + 1) 0) 204 (x + 1) 0) 202 (x + 1) (nI Bn) 100 (p + 1) = 0
    rw [up2_nx (by omega), up2_nx (by omega), up2_nx (by omega)]; exact i0
  · show up2 (up2 (up2 _ 203 (x + 1) 0) 204 (x + 1) 0) 202 (x + 1) (nI Bn) 101 (p + 1) = 0
    rw [up2_nx (by omega), up2_nx (by omega), up2_nx (by omega)]; exact i1
  · show up2 (up2 (up2 _ 203 (x + 1) 0) 204 (x + 1) 0) 202 (x + 1) (nI Bn) 102 (p + 1) = 0
    rw [up2_nx (by omega), up2_nx (by omega), up2_nx (by omega)]; exact i2
  · show up2 (up2 (up2 _ 203 (x + 1) 0) 204 (x + 1) 0) 202 (x + 1) (nI Bn) 103 (p + 1) = 0
    rw [up2_nx (by omega), up2_nx (by omega), up2_nx (by omega)]; exact i3
  · show up2 (up2 (up2 _ 203 (x + 1) 0) 204 (x + 1) 0) 202 (x + 1) (nI Bn) 104 (p + 1) = 0
    rw [up2_nx (by omega), up2_nx (by omega), up2_nx (by omega)]; exact i4
  · show up2 (up2 _ 200 (x + 1) (p + 1)) 201 (x + 1) t 105 (p + 1) = a
    rw [up2_nf (by decide), up2_nf (by decide)]; exact r5
  · show up2 (up2 _ 200 (x + 1) (p + 1)) 201 (x + 1) t 106 (p + 1) = b
    rw [up2_nf (by decide), up2_nf (by decide)]; exact r6
  · show up2 (up2 _ 200 (x + 1) (p + 1)) 201 (x + 1) t 107 (p + 1) = c
    rw [up2_nf (by decide), up2_nf (by decide)]; exact r7
  · show up2 (up2 _ 200 (x + 1) (p + 1)) 201 (x + 1) t 108 (p + 1) = _
    rw [up2_nf (by decide), up2_nf (by decide)]; exact r8
  · show up2 (up2 _ 200 (x + 1) (p + 1)) 201 (x + 1) t 200 (x + 1) = p + 1
    rw [up2_nf (by decide), up2_eq]
  · show up2 (up2 _ 200 (x + 1) (p + 1)) 201 (x + 1) t 201 (x + 1) = t
    rw [up2_eq]
  · show up2 (up2 (up2 _ 203 (x + 1) 0) 204 (x + 1) 0) 202 (x + 1) (nI Bn) 202 (x + 1) = nI Bn
    rw [up2_eq]
  · show up2 (up2 (up2 _ 203 (x + 1) 0) 204 (x + 1) 0) 202 (x + 1) (nI Bn) 203 (x + 1) = 0
    rw [up2_nf (by decide), up2_nf (by decide), up2_eq]
  · show up2 (up2 (up2 _ 203 (x + 1) 0) 204 (x + 1) 0) 202 (x + 1) (nI Bn) 204 (x + 1) = 0
    rw [up2_nf (by decide), up2_eq]
end N2
