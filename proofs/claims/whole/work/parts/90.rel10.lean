/-! ===== pairs: row ===== -/
section Q13
variable {H : hp} {K : Nat → Nat} {V W : Nat → Nat → Int32} {y x n cm at' am by' tm t : Nat} {I : Nat → Int32} {A : Nat → Nat → Int32} {rs : Nat → Option Nat}
set_option maxRecDepth 20000 in
theorem b_row {rw' la nn : Int32} (hmv : MVal H (x + 1) I A) (hR : RD H K V W (y + 1) (x + 1) I A n cm at' am by' tm rs t) : Both 0 0 mX6_row mX7_row [.inl rw', .inl la, .inl nn] (y + 1) (x + 1) (CU H K V W) (INV (y + 1) (x + 1) (t + 1)) := by
  intro kk1 hk1
  have hri := hR.2.2.1
  have h02 : inR la 0 2 ↔ inB la 3 := inR_B (n := 3) (by decide)
  have g40 : ∀ s, s ≤ 40 → ¬ (40 : Int32) < nI s := fun s hs => Int32.not_lt.mpr ((nI_leI (b := 40) (by omega) (by omega)).mpr hs)
  refine c_row hR.cs (fun q => ro hmv hR hk1 (fun kk2 h2 => m_row hR.ms (fun _ => h2 A (EA.rf A)) (fun a1 a2 a3 => absurd ⟨a1, h02.mp a2, fun z => absurd (Int32.lt_trans z a3) (by decide)⟩ q) (fun r s hr e q2 hs es => absurd ⟨by rw [e]; exact inB_nI hr (by omega), h02.mp q2, by rw [es]; exact g40 s hs⟩ q)))
    (fun a1 a2 a3 => gen hmv hR.sm hk1 (fun kk2 hk2 => m_row hR.ms (fun z => absurd ⟨a1, h02.mpr a2, fun z => absurd (Int32.lt_trans z a3) (by decide)⟩ z) (fun _ _ _ => hk2 _ _ hR.t1.stat.toX) (fun r s hr e q2 hs es => absurd a3 (by rw [es]; exact nI_pos (by omega)))))
    (fun r s W3 hr e q2 hs es w1 w2 => ?_)
  obtain ⟨⟨m1, m2, m3, m4, m5, m6⟩, m7, m8, m8b, m9⟩ := hR.2.2.2.2.2.1
  refine gen hmv hR.sm hk1 (fun kk2 hk2 => m_row hR.ms (fun z => absurd ⟨by rw [e]; exact inB_nI hr (by omega), h02.mpr q2, by rw [es]; exact g40 s hs⟩ z) (fun _ _ z => absurd z (by rw [es]; exact nI_pos (by omega))) (fun r' s' hr' e' q2' hs' es' => ?_))
  obtain rfl : r = r' := nIj (by omega) (by omega) (e.symm.trans e')
  obtain rfl : s = s' := nIj (by omega) (by omega) (es.symm.trans es')
  have vo : ∀ f q, f ≠ 301 → f ≠ 302 → up2 (rbV V r la s) 603 1 0 f q = up2 V 603 1 0 f q := fun f q f1 f2 => by
    refine up2_cg ?_
    show up2 (up2 V 301 (310 + r) la) 302 (310 + r) (nI s) f q = V f q
    rw [up2_nf f2, up2_nf f1]
  refine hk2 _ _ (RD.misc (V2 := up2 (rbV V r la s) 603 1 0) (W2 := W3) (I2 := upd I 700 0) (A2 := va_up (va_up (va_up A 701 (upd (A 701) r (nI s))) 702 (upd (A 702) r la)) 703 (va_cpy (fun _ => 0) (A 703) 0 (40 * r) 40)) (by2 := by') (tm2 := tm) (rs2 := fun q => if q = r then some s else rs q) hR.t1 hR.1 (fun s hs => ⟨?_, ?_⟩) (fun s hs => ⟨w1 _ (by omega), w1 _ (by omega)⟩) (fun k hk => if_neg (by omega)) (fun f hf => ?_) hR.2.1.2.2.2.2.1 hR.2.1.2.2.2.2.2 (fun q hq => ?_) ⟨⟨?_, ?_, ?_, ?_, ?_, ?_⟩, ?_, fun j hj => ?_, fun q hq => ?_, fun q hq s' hs' => ?_⟩).toX
  · rw [vo _ _ (by decide) (by decide), up2_nf (by decide)]
  · rw [vo _ _ (by decide) (by decide), up2_nf (by decide)]
  · rw [va_up_ne _ _ (by omega), va_up_ne _ _ (by omega), va_up_ne _ _ (by omega)]
  · rw [va_up_ne _ _ (by decide), va_up_ne _ _ (by decide), va_up_self]
    unfold upd
    by_cases c : q = r
    · rw [if_pos c]; exact Or.inr ⟨s, if_pos c, hs, rfl⟩
    · rw [if_neg c]
      rcases hri q hq with ⟨z1, z2⟩ | ⟨s', z1, z2⟩
      · exact Or.inl ⟨(if_neg c).trans z1, z2⟩
      · exact Or.inr ⟨s', (if_neg c).trans z1, z2⟩
  · rw [vo _ _ (by decide) (by decide), up2_nf (by decide)]; exact m1
  · rw [vo _ _ (by decide) (by decide), up2_nf (by decide)]; exact m2
  · rw [vo _ _ (by decide) (by decide), up2_nf (by decide)]; exact m3
  · rw [vo _ _ (by decide) (by decide), up2_nf (by decide)]; exact m4
  · rw [up2_eq]; rfl
  · rw [vo _ _ (by decide) (by decide), up2_nf (by decide)]; exact m6
  · rw [w1 _ (by omega), va_up_ne _ _ (by decide), va_up_ne _ _ (by decide), va_up_ne _ _ (by decide)]; exact m7
  · rw [w1 _ (by omega), va_up_ne _ _ (by decide), va_up_ne _ _ (by decide), va_up_ne _ _ (by decide)]; exact m8 j hj
  · rw [va_up_ne _ _ (by decide), va_up_ne _ _ (by decide), va_up_self, up2_nf (by decide)]
    show up2 (up2 V 301 (310 + r) la) 302 (310 + r) (nI s) 302 (310 + q) = _
    unfold upd
    by_cases c : q = r
    · rw [if_pos c, c, up2_eq]
    · rw [if_neg c, up2_nx (by omega), up2_nx (by omega)]; exact m8b q hq
  · have e703 : ∀ g : Nat → Int32, va_up (va_up (va_up A 701 (upd (A 701) r (nI s))) 702 (upd (A 702) r la)) 703 g 703 = g := fun g => va_up_self _ _ _
    have e702 : ∀ g : Nat → Int32, va_up (va_up (va_up A 701 (upd (A 701) r (nI s))) 702 (upd (A 702) r la)) 703 g 702 = upd (A 702) r la := fun g => by rw [va_up_ne _ _ (by decide), va_up_self]
    rw [e702, e703, up2_nf (by decide)]
    show up2 (up2 V 301 (310 + r) la) 302 (310 + r) (nI s) 301 (310 + q) = _ ∧ _
    rw [up2_nf (by decide)]
    by_cases c : q = r
    · subst c
      dsimp only at hs'
      rw [if_pos rfl] at hs'
      cases hs'
      rw [up2_eq]
      refine ⟨(if_pos rfl).symm, fun j hj => ?_⟩
      rw [w2 j (by omega)]
      unfold va_cpy
      rw [if_pos (by omega)]
    · dsimp only at hs'
      rw [if_neg c] at hs'
      obtain ⟨t40, tl, tw⟩ := hR.row hq hs'
      rw [up2_nx (by omega), w1 _ (by omega)]
      refine ⟨?_, fun j hj => ?_⟩
      · unfold upd
        rw [if_neg c]; exact tl
      · unfold va_cpy
        rw [if_neg (by omega)]; exact tw j hj
end Q13
