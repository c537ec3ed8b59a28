/-! ===== pairs: drop, row ===== -/
section Q12
variable {H : hp} {K : Nat → Nat} {V W : Nat → Nat → Int32} {y x n cm at' am by' tm t : Nat} {I : Nat → Int32} {A : Nat → Nat → Int32} {rs : Nat → Option Nat}
theorem b_drop {rw' : Int32} (hmv : MVal H (x + 1) I A) (hR : RD H K V W (y + 1) (x + 1) I A n cm at' am by' tm rs t) : Both 0 0 mX6_drop mX7_drop [.inl rw'] (y + 1) (x + 1) (CU H K V W) (INV (y + 1) (x + 1) (t + 1)) := by
  intro kk1 hk1
  have hrw := hR.rl
  have hri := hR.2.2.1
  refine c_drop hR.cs hrw (fun q => ro hmv hR hk1 (fun kk2 h2 => m_drop hR.ms hri (fun _ => h2 A (EA.rf A)) (fun r hr e _ => absurd (by rw [e]; exact inB_nI hr (by omega)) q) (fun r s hr e _ => absurd (by rw [e]; exact inB_nI hr (by omega)) q)))
    (fun r hr e en => gen hmv hR.sm hk1 (fun kk2 hk2 => m_drop hR.ms hri (fun q => absurd (by rw [e]; exact inB_nI hr (by omega)) q) (fun r' hr' e' _ => hk2 _ _ hR.t1.stat.toX) (fun r' s hr' e' es => ?_)))
    (fun r s hr e es => ?_)
  · have er : r = r' := nIj (by omega) (by omega) (e.symm.trans e')
    subst er
    rw [en] at es; cases es
  · refine gen hmv hR.sm hk1 (fun kk2 hk2 => m_drop hR.ms hri (fun q => absurd (by rw [e]; exact inB_nI hr (by omega)) q) (fun r' hr' e' en => ?_) (fun r' s' hr' e' es' => ?_))
    · have er : r = r' := nIj (by omega) (by omega) (e.symm.trans e')
      subst er
      rw [en] at es; cases es
    · have er : r = r' := nIj (by omega) (by omega) (e.symm.trans e')
      subst er
      rw [es] at es'; cases es'
      obtain ⟨⟨m1, m2, m3, m4, m5, m6⟩, m7, m8, m8b, m9⟩ := hR.2.2.2.2.2.1
      refine hk2 _ _ (RD.misc (V2 := up2 (up2 V 302 (310 + r) (-1)) 603 1 0) (W2 := W) (I2 := upd I 700 0) (A2 := va_up A 701 (upd (A 701) r (-1))) (by2 := by') (tm2 := tm) (rs2 := fun q => if q = r then none else rs q) hR.t1 hR.1 (fun s hs => ⟨?_, ?_⟩) (fun s hs => ⟨rfl, rfl⟩) (fun k hk => if_neg (by omega)) (fun f hf => va_up_ne _ _ (by omega)) hR.2.1.2.2.2.2.1 hR.2.1.2.2.2.2.2 (fun q hq => ?_) ⟨⟨?_, ?_, ?_, ?_, ?_, ?_⟩, ?_, fun j hj => ?_, fun q hq => ?_, fun q hq s' hs' => ?_⟩).toX
      · rw [up2_nf (by decide), up2_nf (by decide)]
      · rw [up2_nf (by decide), up2_nf (by decide)]
      · rw [va_up_self]
        unfold upd
        by_cases c : q = r
        · rw [if_pos c]; exact Or.inl ⟨if_pos c, rfl⟩
        · rw [if_neg c]
          rcases hri q hq with ⟨z1, z2⟩ | ⟨s', z1, z2⟩
          · exact Or.inl ⟨(if_neg c).trans z1, z2⟩
          · exact Or.inr ⟨s', (if_neg c).trans z1, z2⟩
      · rw [up2_nf (by decide), up2_nf (by decide)]; exact m1
      · rw [up2_nf (by decide), up2_nf (by decide)]; exact m2
      · rw [up2_nf (by decide), up2_nf (by decide)]; exact m3
      · rw [up2_nf (by decide), up2_nf (by decide)]; exact m4
      · rw [up2_eq]; rfl
      · rw [up2_nf (by decide), up2_nf (by decide)]; exact m6
      · rw [va_up_ne _ _ (by decide)]; exact m7
      · rw [va_up_ne _ _ (by decide)]; exact m8 j hj
      · rw [up2_nf (by decide), va_up_self]
        unfold upd
        by_cases c : q = r
        · rw [if_pos c, c, up2_eq]
        · rw [if_neg c, up2_nx (by omega)]; exact m8b q hq
      · rw [up2_nf (by decide), up2_nf (by decide), va_up_ne A _ (show (702 : Nat) ≠ 701 by decide), va_up_ne A _ (show (703 : Nat) ≠ 701 by decide)]
        by_cases c : q = r
        · dsimp only at hs'
          rw [if_pos c] at hs'; cases hs'
        · dsimp only at hs'
          rw [if_neg c] at hs'
          exact m9 q hq s' hs'
end Q12
