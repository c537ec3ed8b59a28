/-! ===== the class: the reader's heap ===== -/
def RU (h : hp) (q p : Nat) (J P : Nat → Int32) (B : Nat → Nat → Int32) : hp :=
  (fun f z => if z = q then J f else if z = p then P f else h.1 f z, h.2.1, fun z => if z = h.2.1 105 p then B 105 else if z = h.2.1 106 p then B 106 else if z = h.2.1 107 p then B 107 else if z = h.2.1 108 p then B 108 else if z = h.2.1 109 p then B 109 else h.2.2.1 z, h.2.2.2)
def RS (h : hp) (q p t : Nat) : Prop := (p ≠ 0 ∧ p ≠ q ∧ hfR h 200 q = p) ∧ (hfR h 201 q = t ∧ t ≠ 0 ∧ haL h t = 120) ∧ (∀ f, f = 105 ∨ f = 106 ∨ f = 107 → haL h (hfR h f p) = 8) ∧ (∀ f, f = 108 ∨ f = 109 → haL h (hfR h f p) = 4) ∧ (∀ f, f59 f → hfR h f p ≠ 0 ∧ t ≠ hfR h f p) ∧ ∀ f g, f59 f → f59 g → f ≠ g → hfR h f p ≠ hfR h g p
section R1
variable {h : hp} {q p t : Nat} {J P : Nat → Int32} {B : Nat → Nat → Int32}
theorem RU_e (h : hp) (q p : Nat) (J P : Nat → Int32) (B : Nat → Nat → Int32) (f z : Nat) : hfR (RU h q p J P B) f z = hfR h f z := rfl
theorem RU_q (f : Nat) : hfI (RU h q p J P B) f q = J f := if_pos rfl
theorem RU_p (hS : RS h q p t) (f : Nat) : hfI (RU h q p J P B) f p = P f := (if_neg hS.1.2.1).trans (if_pos rfl)
theorem RU_t (hS : RS h q p t) : haI (RU h q p J P B) t = haI h t := by
  have n := fun f hf => (hS.2.2.2.2.1 f hf).2
  show (if t = hfR h 105 p then _ else if t = hfR h 106 p then _ else if t = hfR h 107 p then _ else if t = hfR h 108 p then _ else if t = hfR h 109 p then _ else haI h t) = _
  rw [if_neg (n 105 (by decide)), if_neg (n 106 (by decide)), if_neg (n 107 (by decide)), if_neg (n 108 (by decide)), if_neg (n 109 (by decide))]
theorem RU_B {f : Nat} (hS : RS h q p t) (hf : f59 f) : haI (RU h q p J P B) (hfR h f p) = B f := by
  have n := fun g hg hne => hS.2.2.2.2.2 f g hf hg hne
  show (if hfR h f p = hfR h 105 p then B 105 else if hfR h f p = hfR h 106 p then B 106 else if hfR h f p = hfR h 107 p then B 107 else if hfR h f p = hfR h 108 p then B 108 else if hfR h f p = hfR h 109 p then B 109 else haI h (hfR h f p)) = B f
  rcases hf with rfl | rfl | rfl | rfl | rfl
  · rw [if_pos rfl]
  · rw [if_neg (n 105 (by decide) (by decide)), if_pos rfl]
  · rw [if_neg (n 105 (by decide) (by decide)), if_neg (n 106 (by decide) (by decide)), if_pos rfl]
  · rw [if_neg (n 105 (by decide) (by decide)), if_neg (n 106 (by decide) (by decide)), if_neg (n 107 (by decide) (by decide)), if_pos rfl]
  · rw [if_neg (n 105 (by decide) (by decide)), if_neg (n 106 (by decide) (by decide)), if_neg (n 107 (by decide) (by decide)), if_neg (n 108 (by decide) (by decide)), if_pos rfl]
theorem RU_wJ (f : Nat) (v : Int32) : wfI (RU h q p J P B) f q v = RU h q p (upd J f v) P B := by
  unfold wfI RU
  refine Prod.ext ?_ rfl
  funext f' z
  show up2 (fun f z => if z = q then J f else if z = p then P f else h.1 f z) f q v f' z = (if z = q then upd J f v f' else if z = p then P f' else h.1 f' z)
  unfold up2 upd
  by_cases c1 : z = q <;> by_cases c2 : f' = f <;> simp [c1, c2]
theorem RU_wP (hS : RS h q p t) (f : Nat) (v : Int32) : wfI (RU h q p J P B) f p v = RU h q p J (upd P f v) B := by
  have hne := hS.1.2.1
  unfold wfI RU
  refine Prod.ext ?_ rfl
  funext f' z
  show up2 (fun f z => if z = q then J f else if z = p then P f else h.1 f z) f p v f' z = (if z = q then J f' else if z = p then upd P f v f' else h.1 f' z)
  unfold up2 upd
  by_cases c1 : z = q
  · subst c1
    have : ¬ z = p := fun e => hne e.symm
    by_cases c2 : f' = f <;> simp [c2, this]
  · by_cases c3 : z = p <;> by_cases c2 : f' = f <;> simp [c1, c2, c3, hne]
theorem RU_wB {f : Nat} (hS : RS h q p t) (hf : f59 f) (g : Nat → Int32) : waI (RU h q p J P B) (hfR h f p) g = RU h q p J P (va_up B f g) := by
  have n := hS.2.2.2.2.2
  unfold waI RU
  refine Prod.ext rfl (Prod.ext rfl (Prod.ext ?_ rfl))
  funext z
  show va_up (fun z => if z = hfR h 105 p then B 105 else if z = hfR h 106 p then B 106 else if z = hfR h 107 p then B 107 else if z = hfR h 108 p then B 108 else if z = hfR h 109 p then B 109 else h.2.2.1 z) (hfR h f p) g z = (if z = hfR h 105 p then va_up B f g 105 else if z = hfR h 106 p then va_up B f g 106 else if z = hfR h 107 p then va_up B f g 107 else if z = hfR h 108 p then va_up B f g 108 else if z = hfR h 109 p then va_up B f g 109 else h.2.2.1 z)
  by_cases c : z = hfR h f p
  · rw [c, va_up_self]
    rcases hf with rfl | rfl | rfl | rfl | rfl
    · rw [if_pos rfl, va_up_self]
    · rw [if_neg (n 106 105 (by decide) (by decide) (by decide)), if_pos rfl, va_up_self]
    · rw [if_neg (n 107 105 (by decide) (by decide) (by decide)), if_neg (n 107 106 (by decide) (by decide) (by decide)), if_pos rfl, va_up_self]
    · rw [if_neg (n 108 105 (by decide) (by decide) (by decide)), if_neg (n 108 106 (by decide) (by decide) (by decide)), if_neg (n 108 107 (by decide) (by decide) (by decide)), if_pos rfl, va_up_self]
    · rw [if_neg (n 109 105 (by decide) (by decide) (by decide)), if_neg (n 109 106 (by decide) (by decide) (by decide)), if_neg (n 109 107 (by decide) (by decide) (by decide)), if_neg (n 109 108 (by decide) (by decide) (by decide)), if_pos rfl, va_up_self]
  · rw [va_up_ne _ _ c]
    have w : ∀ g', g' ≠ f → va_up B f g g' = B g' := fun g' hne => va_up_ne _ _ hne
    rcases hf with rfl | rfl | rfl | rfl | rfl
    · rw [if_neg c, if_neg c, w 106 (by decide), w 107 (by decide), w 108 (by decide), w 109 (by decide)]
    · rw [if_neg (c := z = hfR h 106 p) c, if_neg (c := z = hfR h 106 p) c, w 105 (by decide), w 107 (by decide), w 108 (by decide), w 109 (by decide)]
    · rw [if_neg (c := z = hfR h 107 p) c, if_neg (c := z = hfR h 107 p) c, w 105 (by decide), w 106 (by decide), w 108 (by decide), w 109 (by decide)]
    · rw [if_neg (c := z = hfR h 108 p) c, if_neg (c := z = hfR h 108 p) c, w 105 (by decide), w 106 (by decide), w 107 (by decide), w 109 (by decide)]
    · rw [if_neg (c := z = hfR h 109 p) c, if_neg (c := z = hfR h 109 p) c, w 105 (by decide), w 106 (by decide), w 107 (by decide), w 108 (by decide)]
end R1
section R2
variable {d q p t Bn pl : Nat} {h : hp} {J P : Nat → Int32} {B : Nat → Nat → Int32} {kk : Rt}
theorem c_letter (hS : RS h (q + 1) p t) (hb : J 202 = nI Bn) (hb2 : Bn ≤ 120) (hp : J 203 = nI pl) (hp2 : pl ≤ 1000) (hk : kk (some (.inl (letR (haI h t) Bn pl))) (RU h (q + 1) p J P B)) : CL d mX2_letter 0 0 [.inr (.inr (3, q + 1))] (RU h (q + 1) p J P B) kk := by
  obtain ⟨w1, w2, w3⟩ := hS.2.1
  have eb : hfI (RU h (q + 1) p J P B) 202 (q + 1) = nI Bn := (RU_q _).trans hb
  have epl : hfI (RU h (q + 1) p J P B) 203 (q + 1) = nI pl := (RU_q _).trans hp
  have et : hfR (RU h (q + 1) p J P B) 201 (q + 1) = t := w1
  refine mw T_X2_letter (fun Wm go => go cut0 40 0 _ _ _ _ _ ?_)
  refine icg epl eb (by omega) (by omega) (fun c => ?_) (fun c => ?_)
  · refine kki hk ?_ rfl
    unfold letR
    rw [if_neg (by omega)]
  · refine nz (by rw [et]; exact w2) (And.intro ?_ ?_)
    · show vp_in (hfI (RU h (q + 1) p J P B) 203 (q + 1)) (haL h (hfR (RU h (q + 1) p J P B) 201 (q + 1)))
      rw [et, w3, epl]; exact vp_in_nI (by omega) (by omega)
    · refine kki hk ?_ rfl
      rw [et, epl, nI_clamp (by omega), RU_t hS]
      unfold letR
      rw [if_pos c]
theorem c_kindOf {v : Int32} {h : hp} (hk : kk (some (.inl (kindN v))) h) : CL d mX2_kindOf 0 0 [.inl v] h kk := by
  refine mw T_X2_kindOf (fun Wm go => go cut0 40 0 _ _ _ _ _ ?_)
  refine And.intro (fun k1 => ?_) (fun k1 => And.intro (fun k2 => ?_) (fun k2 => And.intro (fun k3 => ?_) (fun k3 => And.intro (fun k4 => ?_) (fun k4 => And.intro (fun k5 => ?_) (fun k5 => ?_)))))
  · have k1 : v = 99 := k1
    subst k1; exact hk
  · have k2 : v = 108 := k2
    subst k2; exact hk
  · have k3 : v = 112 := k3
    subst k3; exact hk
  · have k4 : v = 115 := k4
    subst k4; exact hk
  · have k5 : v = 121 := k5
    subst k5; exact hk
  · refine kki hk ?_ rfl
    have k1 : ¬ v = 99 := k1
    have k2 : ¬ v = 108 := k2
    have k3 : ¬ v = 112 := k3
    have k4 : ¬ v = 115 := k4
    have k5 : ¬ v = 121 := k5
    unfold kindN
    rw [if_neg k1, if_neg k4, if_neg k3, if_neg k5, if_neg k2]
theorem c_lookForRoom {sg th mo : Int32} (hS : RS h (q + 1) p t) (hb : J 202 = nI Bn) (hb2 : Bn ≤ 120) (hp : J 203 = nI pl) (hp2 : pl ≤ 1000) (h0 : ¬ (J 204 = 0 ∧ letR (haI h t) Bn pl = sg ∧ ¬ th < mo) → kk none (RU h (q + 1) p J P B)) (h1 : J 204 = 0 → letR (haI h t) Bn pl = sg → ¬ th < mo → kk none (RU h (q + 1) p (upd J 204 3) P B)) : CL (d + 1) mX2_lookForRoom 0 0 [.inr (.inr (3, q + 1)), .inl sg, .inl th, .inl mo] (RU h (q + 1) p J P B) kk := by
  refine mw T_X2_lookForRoom (fun Wm go => go cut0 40 0 _ _ _ _ _ ?_)
  have ef : hfI (RU h (q + 1) p J P B) 204 (q + 1) = J 204 := RU_q _
  refine And.intro (fun k1 => ?_) (fun k1 => h0 (fun z => k1 (ef.trans z.1)))
  have k1 : J 204 = 0 := ef.symm.trans k1
  refine c_letter hS hb hb2 hp hp2 ?_
  refine And.intro (fun k2 => ?_) (fun k2 => h0 (fun z => k2 z.2.1))
  refine And.intro (fun k3 => h0 (fun z => z.2.2 k3)) (fun k3 => ?_)
  exact kkc (h1 k1 k2 k3) rfl (RU_wJ _ _)
theorem c_readSign {sg : Int32} (hS : RS h (q + 1) p t) (hb : J 202 = nI Bn) (hb2 : Bn ≤ 120) (hp : J 203 = nI pl) (hp2 : pl ≤ 1000) (h0 : ¬ J 204 = 0 → kk none (RU h (q + 1) p J P B)) (h1 : J 204 = 0 → ¬ letR (haI h t) Bn pl = sg → kk none (RU h (q + 1) p (upd J 204 1) P B)) (h2 : J 204 = 0 → letR (haI h t) Bn pl = sg → kk none (RU h (q + 1) p (upd J 203 (nI (pl + 1))) P B)) : CL (d + 1) mX2_readSign 0 0 [.inr (.inr (3, q + 1)), .inl sg] (RU h (q + 1) p J P B) kk := by
  refine mw T_X2_readSign (fun Wm go => go cut0 40 0 _ _ _ _ _ ?_)
  have ef : hfI (RU h (q + 1) p J P B) 204 (q + 1) = J 204 := RU_q _
  have epl : hfI (RU h (q + 1) p J P B) 203 (q + 1) = nI pl := (RU_q _).trans hp
  refine And.intro (fun k1 => ?_) (fun k1 => h0 (fun z => k1 (ef.trans z)))
  have k1 : J 204 = 0 := ef.symm.trans k1
  refine c_letter hS hb hb2 hp hp2 ?_
  refine And.intro (fun k2 => ?_) (fun k2 => ?_)
  · refine kkc (h2 k1 k2) rfl ?_
    rw [epl]
    show wfI _ 203 (q + 1) (nI pl + 1) = _
    rw [nI_1]
    exact RU_wJ _ _
  · exact kkc (h1 k1 k2) rfl (RU_wJ _ _)
theorem numR_f {T : Nat → Int32} {lo hi f : Int32} (e : numR T Bn pl lo hi = .inl f) : f = 1 ∨ f = 2 := by
  unfold numR numV at e
  split at e
  · split at e
    · split at e
      · cases e; exact Or.inl rfl
      · split at e
        · cases e
        · cases e; exact Or.inr rfl
    · split at e
      · cases e
      · cases e; exact Or.inr rfl
  · cases e; exact Or.inl rfl
set_option maxRecDepth 20000 in
theorem c_readNumber {lo hi : Int32} (hS : RS h (q + 1) p t) (hb : J 202 = nI Bn) (hb2 : Bn ≤ 120) (hp : J 203 = nI pl) (hp2 : pl ≤ 1000) (h0 : ¬ J 204 = 0 → kk (some (.inl 0)) (RU h (q + 1) p J P B)) (h1 : ∀ f, J 204 = 0 → numR (haI h t) Bn pl lo hi = .inl f → kk (some (.inl 0)) (RU h (q + 1) p (upd J 204 f) P B)) (h2 : ∀ v r, J 204 = 0 → numR (haI h t) Bn pl lo hi = .inr (v, r) → kk (some (.inl v)) (RU h (q + 1) p (upd J 203 (nI r)) P B)) : CL d mX2_readNumber 0 0 [.inr (.inr (3, q + 1)), .inl lo, .inl hi] (RU h (q + 1) p J P B) kk := by
  obtain ⟨w1, w2, w3⟩ := hS.2.1
  have eb : hfI (RU h (q + 1) p J P B) 202 (q + 1) = nI Bn := (RU_q _).trans hb
  have epl : hfI (RU h (q + 1) p J P B) 203 (q + 1) = nI pl := (RU_q _).trans hp
  have et : hfR (RU h (q + 1) p J P B) 201 (q + 1) = t := w1
  have ef : hfI (RU h (q + 1) p J P B) 204 (q + 1) = J 204 := RU_q _
  obtain ⟨T, hT⟩ : ∃ T : Nat → Int32, T = haI h t := ⟨_, rfl⟩
  rw [← hT] at h1 h2
  refine mw3 T_X2_readNumber (fun Wm go wk => go (cut1 20) 60 0 _ _ _ _ _ ?_)
  refine And.intro (fun k1 => ?_) (fun k1 => h0 (fun z => k1 (ef.trans z)))
  have k1 : J 204 = 0 := ef.symm.trans k1
  have h1 := fun f => h1 f k1
  have h2 := fun v r => h2 v r k1
  -- a load of the tape
  have tl : ∀ (nx : Nx) (n : Nat) (L : Lo) (S : List pv) (cu su i : Nat), i < Bn → nx n L (.inl (T i) :: S) (RU h (q + 1) p J P B) cu su → if hfR (RU h (q + 1) p J P B) 201 (q + 1) = 0 then False else vp_in (nI i) (haL (RU h (q + 1) p J P B) (hfR (RU h (q + 1) p J P B) 201 (q + 1))) ∧ nx n L (.inl (haI (RU h (q + 1) p J P B) (hfR (RU h (q + 1) p J P B) 201 (q + 1)) (nI i).toNatClampNeg) :: S) (RU h (q + 1) p J P B) cu su := by
    intro nx n L S cu su i hi hn
    refine nz (by rw [et]; exact w2) (And.intro ?_ ?_)
    · show vp_in (nI i) (haL h (hfR (RU h (q + 1) p J P B) 201 (q + 1)))
      rw [et, w3]; exact vp_in_nI (by omega) (by omega)
    · rw [et, nI_clamp (by omega), RU_t hS, ← hT]; exact hn
  have step : ∀ (fg : Nat) (va : Int32), fg ≤ 3 → (fg < 3 → figQ T Bn (pl + fg) → Wm 20 [some (.inr (.inr (3, q + 1))), some (.inl lo), some (.inl hi), some (.inl (10 * va + T (pl + fg) - 48)), some (.inl (nI (fg + 1))), some (.inl (nI (pl + (fg + 1))))] [] (RU h (q + 1) p J P B) 0 0) → (¬ (fg < 3 ∧ figQ T Bn (pl + fg)) → Wm 84 [some (.inr (.inr (3, q + 1))), some (.inl lo), some (.inl hi), some (.inl va), some (.inl (nI fg)), none] [] (RU h (q + 1) p J P B) 0 0) → Wm 20 [some (.inr (.inr (3, q + 1))), some (.inl lo), some (.inl hi), some (.inl va), some (.inl (nI fg)), some (.inl (nI (pl + fg)))] [] (RU h (q + 1) p J P B) 0 0 := by
    intro fg va h3 hy hno
    refine go (cut2 20 84) 60 20 _ _ _ _ _ ?_
    refine icg rfl eb (by omega) (by omega) (fun c => ?_) (fun c => ?_)
    · exact wk _ _ _ _ _ _ _ (hno (fun z => by have := z.2.1; omega)) (by repeat (first | exact ln | refine l0 ?_ | refine l1 rfl ?_))
    refine icg (b := 3) rfl rfl (by omega) (by omega) (fun c2 => ?_) (fun c2 => ?_)
    · exact wk _ _ _ _ _ _ _ (hno (fun z => by have := z.1; omega)) (by repeat (first | exact ln | refine l0 ?_ | refine l1 rfl ?_))
    refine tl _ _ _ _ _ _ (pl + fg) c ?_
    refine And.intro (fun c3 => wk _ _ _ _ _ _ _ (hno (fun z => Int32.not_lt.mpr z.2.2.1 c3)) (by repeat (first | exact ln | refine l0 ?_ | refine l1 rfl ?_))) (fun c3 => ?_)
    refine tl _ _ _ _ _ _ (pl + fg) c ?_
    refine And.intro (fun c4 => wk _ _ _ _ _ _ _ (hno (fun z => Int32.not_lt.mpr z.2.2.2 c4)) (by repeat (first | exact ln | refine l0 ?_ | refine l1 rfl ?_))) (fun c4 => ?_)
    refine tl _ _ _ _ _ _ (pl + fg) c ?_
    have e := hy c2 ⟨c, Int32.not_lt.mp c3, Int32.not_lt.mp c4⟩
    rw [show pl + (fg + 1) = pl + fg + 1 by omega, ← nI_1 fg, ← nI_1 (pl + fg)] at e
    exact e
  have bad1 : numR T Bn pl lo hi = .inl 1 → Wm 96 [some (.inr (.inr (3, q + 1))), none, none, none, none, none] [] (RU h (q + 1) p J P B) 0 0 := by
    intro e
    refine go cut0 20 96 _ _ _ _ _ ?_
    exact kki (h1 1 e) rfl (RU_wJ _ _)
  have fin : ∀ (fg : Nat) (va : Int32), 1 ≤ fg → fg ≤ 2 → numR T Bn pl lo hi = numV va (pl + fg) lo hi → Wm 103 [some (.inr (.inr (3, q + 1))), some (.inl lo), some (.inl hi), some (.inl va), some (.inl (nI fg)), none] [] (RU h (q + 1) p J P B) 0 0 := by
    intro fg va g1 g2 e
    unfold numV at e
    have bad2 : ¬ inR va lo hi → Wm 113 [some (.inr (.inr (3, q + 1))), none, none, none, none, none] [] (RU h (q + 1) p J P B) 0 0 := by
      intro hn
      rw [if_neg hn] at e
      refine go cut0 20 113 _ _ _ _ _ ?_
      exact kki (h1 2 e) rfl (RU_wJ _ _)
    refine go (cut2 113 120) 40 103 _ _ _ _ _ ?_
    refine And.intro (fun c3 => wk _ _ _ _ _ _ _ (bad2 (fun z => Int32.not_lt.mpr z.1 c3)) (by repeat (first | exact ln | refine l0 ?_ | refine l1 rfl ?_))) (fun c3 => And.intro (fun c4 => ?_) (fun c4 => wk _ _ _ _ _ _ _ (bad2 (fun z => c4 z.2)) (by repeat (first | exact ln | refine l0 ?_ | refine l1 rfl ?_))))
    rw [if_pos ⟨Int32.not_lt.mp c3, c4⟩] at e
    refine go cut0 40 120 _ _ _ _ _ ?_
    refine kki (h2 va (pl + fg) e) rfl ?_
    rw [epl]
    show wfI _ 203 (q + 1) (nI pl + nI fg) = _
    rw [nI_add]
    exact RU_wJ _ _
  have st0 : Wm 20 [some (.inr (.inr (3, q + 1))), some (.inl lo), some (.inl hi), some (.inl 0), some (.inl (nI 0)), some (.inl (nI (pl + 0)))] [] (RU h (q + 1) p J P B) 0 0 := by
    refine step 0 0 (by omega) (fun _ f0 => step 1 _ (by omega) (fun _ f1 => step 2 _ (by omega) (fun _ f2 => step 3 _ (by omega) (fun z => absurd z (by omega)) (fun _ => ?_)) (fun f2 => ?_)) (fun f1 => ?_)) (fun f0 => ?_)
    · refine go (cut1 96) 20 84 _ _ _ _ _ ?_
      refine And.intro (fun z => absurd z (by decide)) (fun _ => And.intro (fun z => absurd z (by decide)) (fun _ => ?_))
      refine wk _ _ _ _ _ _ _ (bad1 ?_) (by repeat (first | exact ln | refine l0 ?_ | refine l1 rfl ?_))
      have f0 : figQ T Bn pl := f0
      unfold numR
      rw [if_pos f0, if_pos f1, if_pos f2]
    · refine go (cut2 96 103) 20 84 _ _ _ _ _ ?_
      refine And.intro (fun z => absurd z (by decide)) (fun _ => And.intro (fun _ => ?_) (fun z => absurd (by decide) z))
      refine fin 2 _ (by omega) (by omega) ?_
      have f2 : ¬ figQ T Bn (pl + 2) := fun z => f2 ⟨by omega, z⟩
      have e0 : (10 : Int32) * 0 + T (pl + 0) - 48 = T pl - 48 := by
        rw [show (10 : Int32) * 0 = 0 from rfl, Int32.zero_add]; rfl
      have f0 : figQ T Bn pl := f0
      unfold numR
      rw [if_pos f0, if_pos f1, if_neg f2, e0]
    · refine go (cut2 96 103) 20 84 _ _ _ _ _ ?_
      refine And.intro (fun z => absurd z (by decide)) (fun _ => And.intro (fun _ => ?_) (fun z => absurd (by decide) z))
      refine fin 1 _ (by omega) (by omega) ?_
      have f1 : ¬ figQ T Bn (pl + 1) := fun z => f1 ⟨by omega, z⟩
      have e0 : (10 : Int32) * 0 + T (pl + 0) - 48 = T pl - 48 := by
        rw [show (10 : Int32) * 0 = 0 from rfl, Int32.zero_add]; rfl
      have f0 : figQ T Bn pl := f0
      unfold numR
      rw [if_pos f0, if_neg f1, e0]
    · refine go (cut2 96 103) 20 84 _ _ _ _ _ ?_
      refine And.intro (fun _ => ?_) (fun z => absurd (by decide) z)
      refine wk _ _ _ _ _ _ _ (bad1 ?_) (by repeat (first | exact ln | refine l0 ?_ | refine l1 rfl ?_))
      have f0 : ¬ figQ T Bn pl := fun z => f0 ⟨by omega, z⟩
      unfold numR
      rw [if_neg f0]
  refine wmc (Wm := Wm) st0 ?_ rfl
  show [some (Sum.inr (Sum.inr (3, q + 1))), some (Sum.inl lo), some (Sum.inl hi), some (Sum.inl 0), some (Sum.inl 0), some (Sum.inl (hfI (RU h (q + 1) p J P B) 203 (q + 1)))] = _
  rw [epl]
  rfl
end R2
