/-! ===== pairs: rows ===== -/
section Q11
variable {H : hp} {K : Nat → Nat} {V W : Nat → Nat → Int32} {y x n cm at' am by' tm t : Nat} {I : Nat → Int32} {A : Nat → Nat → Int32} {rs : Nat → Option Nat}
theorem RD.row (hR : RD H K V W y x I A n cm at' am by' tm rs t) {r s : Nat} (hr : r < 8) (hs : rs r = some s) : s ≤ 40 ∧ V 301 (310 + r) = A 702 r ∧ ∀ j, j < s → W (300 + r) j = A 703 (40 * r + j) := by
  have h := hR.2.2.2.2.2.1.2.2.2.2 r hr s hs
  rcases hR.2.2.1 r hr with ⟨z1, -⟩ | ⟨s', z1, z2, -⟩
  · rw [hs] at z1; cases z1
  · rw [hs] at z1
    cases z1
    exact ⟨z2, h⟩
theorem b_set {rw' i v : Int32} (hmv : MVal H (x + 1) I A) (hR : RD H K V W (y + 1) (x + 1) I A n cm at' am by' tm rs t) : Both 0 0 mX6_set mX7_set [.inl rw', .inl i, .inl v] (y + 1) (x + 1) (CU H K V W) (INV (y + 1) (x + 1) (t + 1)) := by
  intro kk1 hk1
  have hrw := hR.rl
  have hri := hR.2.2.1
  refine c_set hR.cs hrw (fun q => ro hmv hR hk1 (fun kk2 h2 => m_set hR.ms hri (fun _ => h2 A (EA.rf A)) (fun r hr e _ => absurd (by rw [e]; exact inB_nI hr (by omega)) q) (fun r s hr e _ _ => absurd (by rw [e]; exact inB_nI hr (by omega)) q) (fun r s j hr e _ _ _ => absurd (by rw [e]; exact inB_nI hr (by omega)) q)))
    (fun r hr e en => gen hmv hR.sm hk1 (fun kk2 hk2 => m_set hR.ms hri (fun q => absurd (by rw [e]; exact inB_nI hr (by omega)) q) (fun r' hr' e' _ => hk2 _ _ hR.t1.stat.toX) (fun r' s hr' e' es _ => ?_) (fun r' s j hr' e' es _ _ => ?_)))
    (fun r s hr e es np => gen hmv hR.sm hk1 (fun kk2 hk2 => m_set hR.ms hri (fun q => absurd (by rw [e]; exact inB_nI hr (by omega)) q) (fun r' hr' e' en => ?_) (fun r' s' hr' e' es' _ => hk2 _ _ hR.t1.stat.toX) (fun r' s' j hr' e' es' hj ej => ?_)))
    (fun r s j hr e es hj ej => ?_)
  · have er : r = r' := nIj (by omega) (by omega) (e.symm.trans e')
    subst er
    rw [en] at es; cases es
  · have er : r = r' := nIj (by omega) (by omega) (e.symm.trans e')
    subst er
    rw [en] at es; cases es
  · have er : r = r' := nIj (by omega) (by omega) (e.symm.trans e')
    subst er
    rw [en] at es; cases es
  · have er : r = r' := nIj (by omega) (by omega) (e.symm.trans e')
    subst er
    rw [es] at es'; cases es'
    have s40 := (hR.row hr es).1
    exact absurd (by rw [ej]; exact inB_nI hj (by omega)) np
  · obtain ⟨s40, el, ew⟩ := hR.row hr es
    rw [el]
    refine gen hmv hR.sm hk1 (fun kk2 hk2 => m_set hR.ms hri (fun q => absurd (by rw [e]; exact inB_nI hr (by omega)) q) (fun r' hr' e' en => ?_) (fun r' s' hr' e' es' np => ?_) (fun r' s' j' hr' e' es' hj' ej' => ?_))
    · have er : r = r' := nIj (by omega) (by omega) (e.symm.trans e')
      subst er
      rw [en] at es; cases es
    · have er : r = r' := nIj (by omega) (by omega) (e.symm.trans e')
      subst er
      rw [es] at es'; cases es'
      exact absurd (by rw [ej]; exact inB_nI hj (by omega)) np
    · have er : r = r' := nIj (by omega) (by omega) (e.symm.trans e')
      subst er
      rw [es] at es'; cases es'
      have ejj : j = j' := nIj (by omega) (by omega) (ej.symm.trans ej')
      subst ejj
      obtain ⟨⟨m1, m2, m3, m4, m5, m6⟩, m7, m8, m8b, m9⟩ := hR.2.2.2.2.2.1
      refine hk2 _ _ (RD.misc (V2 := up2 V 603 1 0) (W2 := va_up W (300 + r) (upd (W (300 + r)) j (cutI (A 702 r) v))) (I2 := upd I 700 0) (A2 := va_up A 703 (upd (A 703) (40 * r + j) (cutI (A 702 r) v))) (by2 := by') (tm2 := tm) (rs2 := rs) hR.t1 hR.1 (fun s hs => ⟨up2_nf (by decide), up2_nf (by decide)⟩) (fun s hs => ⟨va_up_ne _ _ (by omega), va_up_ne _ _ (by omega)⟩) (fun k hk => if_neg (by omega)) (fun f hf => va_up_ne _ _ (by omega)) hR.2.1.2.2.2.2.1 hR.2.1.2.2.2.2.2 ?_ ⟨⟨m1, m2, m3, m4, ?_, m6⟩, ?_, fun j hj => ?_, fun r' hr' => ?_, fun r' hr' s' hs' => ?_⟩).toX
      · unfold RIn; rw [va_up_ne _ _ (by decide)]; exact hri
      · rw [up2_eq]; rfl
      · rw [va_up_ne W _ (show 4 ≠ 300 + r by omega), va_up_ne A _ (show (705 : Nat) ≠ 703 by decide)]; exact m7
      · rw [va_up_ne W _ (show 5 ≠ 300 + r by omega), va_up_ne A _ (show (738 : Nat) ≠ 703 by decide)]; exact m8 j hj
      · rw [up2_nf (by decide), va_up_ne A _ (show (701 : Nat) ≠ 703 by decide)]; exact m8b r' hr'
      · rw [up2_nf (by decide), va_up_ne A _ (show (702 : Nat) ≠ 703 by decide), va_up_self]
        obtain ⟨t40, tl, tw⟩ := hR.row hr' hs'
        refine ⟨tl, fun i hi => ?_⟩
        unfold upd
        by_cases c : r' = r
        · subst c
          rw [va_up_self]
          by_cases c2 : i = j
          · rw [if_pos c2, if_pos (by omega)]
          · rw [if_neg c2, if_neg (by omega)]; exact tw i hi
        · rw [va_up_ne W _ (show 300 + r' ≠ 300 + r by omega), if_neg (by omega)]; exact tw i hi
theorem b_copy {ra i rb j k : Int32} (hmv : MVal H (x + 1) I A) (hR : RD H K V W (y + 1) (x + 1) I A n cm at' am by' tm rs t) : Both 0 0 mX6_copy mX7_copy [.inl ra, .inl i, .inl rb, .inl j, .inl k] (y + 1) (x + 1) (CU H K V W) (INV (y + 1) (x + 1) (t + 1)) := by
  intro kk1 hk1
  have hrw := hR.rl
  have hri := hR.2.2.1
  have two : ∀ a b a' b', a < 8 → b < 8 → a' < 8 → b' < 8 → ra = nI a → rb = nI b → ra = nI a' → rb = nI b' → a' = a ∧ b' = b := fun a b a' b' h1 h2 h3 h4 e1 e2 e3 e4 => ⟨(nIj (by omega) (by omega) (e1.symm.trans e3)).symm, (nIj (by omega) (by omega) (e2.symm.trans e4)).symm⟩
  have ok : ∀ a b, a < 8 → b < 8 → ra = nI a → rb = nI b → inB ra 8 ∧ inB rb 8 := fun a b h1 h2 e1 e2 => ⟨by rw [e1]; exact inB_nI h1 (by omega), by rw [e2]; exact inB_nI h2 (by omega)⟩
  have pt : ∀ s i' k', s ≤ 40 → i' + k' ≤ s → isPt s (nI i') (nI k') := fun s i' k' hs h => by
    unfold isPt
    rw [nI_toInt (by omega), nI_toInt (by omega)]
    omega
  refine c_copy hR.cs hrw (fun q => ro hmv hR hk1 (fun kk2 h2 => m_copy hR.ms hri (fun _ => h2 A (EA.rf A)) (fun a b h1 h2 e1 e2 _ => absurd (ok a b h1 h2 e1 e2) q) (fun a b s t h1 h2 e1 e2 _ _ _ => absurd (ok a b h1 h2 e1 e2) q) (fun a b s t h1 h2 e1 e2 _ _ _ _ => absurd (ok a b h1 h2 e1 e2) q) (fun a b s t i' j' k' h1 h2 e1 e2 _ _ _ _ _ _ _ _ => absurd (ok a b h1 h2 e1 e2) q)))
    (fun a b h1 h2 e1 e2 nn => gen hmv hR.sm hk1 (fun kk2 hk2 => m_copy hR.ms hri (fun q => absurd (ok a b h1 h2 e1 e2) q) (fun a' b' _ _ _ _ _ => hk2 _ _ hR.t1.stat.toX) (fun a' b' s t g1 g2 f1 f2 z1 z2 _ => ?_) (fun a' b' s t g1 g2 f1 f2 z1 z2 _ _ => ?_) (fun a' b' s t i' j' k' g1 g2 f1 f2 z1 z2 _ _ _ _ _ _ => ?_)))
    (fun a b s t h1 h2 e1 e2 z1 z2 nl => gen hmv hR.sm hk1 (fun kk2 hk2 => m_copy hR.ms hri (fun q => absurd (ok a b h1 h2 e1 e2) q) (fun a' b' g1 g2 f1 f2 nn => ?_) (fun a' b' s t _ _ _ _ _ _ _ => hk2 _ _ hR.t1.stat.toX) (fun a' b' s' t' g1 g2 f1 f2 _ _ el _ => ?_) (fun a' b' s' t' i' j' k' g1 g2 f1 f2 _ _ el _ _ _ _ _ => ?_)))
    (fun a b s t h1 h2 e1 e2 z1 z2 el np => gen hmv hR.sm hk1 (fun kk2 hk2 => m_copy hR.ms hri (fun q => absurd (ok a b h1 h2 e1 e2) q) (fun a' b' g1 g2 f1 f2 nn => ?_) (fun a' b' s' t' g1 g2 f1 f2 _ _ nl => ?_) (fun a' b' s t _ _ _ _ _ _ _ _ => hk2 _ _ hR.t1.stat.toX) (fun a' b' s' t' i' j' k' g1 g2 f1 f2 z1' z2' _ q1 q2 q3 q4 q5 => ?_)))
    (fun a b s t i' j' k' h1 h2 e1 e2 z1 z2 el q1 q2 q3 q4 q5 => ?_)
  · obtain ⟨rfl, rfl⟩ := two a b a' b' h1 h2 g1 g2 e1 e2 f1 f2
    rcases nn with nn | nn
    · rw [nn] at z1; cases z1
    · rw [nn] at z2; cases z2
  · obtain ⟨rfl, rfl⟩ := two a b a' b' h1 h2 g1 g2 e1 e2 f1 f2
    rcases nn with nn | nn
    · rw [nn] at z1; cases z1
    · rw [nn] at z2; cases z2
  · obtain ⟨rfl, rfl⟩ := two a b a' b' h1 h2 g1 g2 e1 e2 f1 f2
    rcases nn with nn | nn
    · rw [nn] at z1; cases z1
    · rw [nn] at z2; cases z2
  · obtain ⟨rfl, rfl⟩ := two a b a' b' h1 h2 g1 g2 e1 e2 f1 f2
    rcases nn with nn | nn
    · rw [nn] at z1; cases z1
    · rw [nn] at z2; cases z2
  · obtain ⟨rfl, rfl⟩ := two a b a' b' h1 h2 g1 g2 e1 e2 f1 f2
    rw [(hR.row h1 z1).2.1, (hR.row h2 z2).2.1] at nl
    exact absurd el nl
  · obtain ⟨rfl, rfl⟩ := two a b a' b' h1 h2 g1 g2 e1 e2 f1 f2
    rw [(hR.row h1 z1).2.1, (hR.row h2 z2).2.1] at nl
    exact absurd el nl
  · obtain ⟨rfl, rfl⟩ := two a b a' b' h1 h2 g1 g2 e1 e2 f1 f2
    rcases nn with nn | nn
    · rw [nn] at z1; cases z1
    · rw [nn] at z2; cases z2
  · obtain ⟨rfl, rfl⟩ := two a b a' b' h1 h2 g1 g2 e1 e2 f1 f2
    rw [(hR.row h1 z1).2.1, (hR.row h2 z2).2.1] at el
    exact absurd el nl
  · obtain ⟨rfl, rfl⟩ := two a b a' b' h1 h2 g1 g2 e1 e2 f1 f2
    rw [z1] at z1'; cases z1'
    rw [z2] at z2'; cases z2'
    exact absurd ⟨by rw [q1, q3]; exact pt _ _ _ (hR.row h1 z1).1 q4, by rw [q2, q3]; exact pt _ _ _ (hR.row h2 z2).1 q5⟩ np
  · obtain ⟨s40, sl, sw'⟩ := hR.row h1 z1
    obtain ⟨t40, tl, tw⟩ := hR.row h2 z2
    rw [sl, tl] at el
    refine gen hmv hR.sm hk1 (fun kk2 hk2 => m_copy hR.ms hri (fun q => absurd (ok a b h1 h2 e1 e2) q) (fun a' b' g1 g2 f1 f2 nn => ?_) (fun a' b' s' t' g1 g2 f1 f2 _ _ nl => ?_) (fun a' b' s' t' g1 g2 f1 f2 z1' z2' _ np => ?_) (fun a' b' s' t' i2 j2 k2 g1 g2 f1 f2 z1' z2' _ p1 p2 p3 p4 p5 => ?_))
    · obtain ⟨rfl, rfl⟩ := two a b a' b' h1 h2 g1 g2 e1 e2 f1 f2
      rcases nn with nn | nn
      · rw [nn] at z1; cases z1
      · rw [nn] at z2; cases z2
    · obtain ⟨rfl, rfl⟩ := two a b a' b' h1 h2 g1 g2 e1 e2 f1 f2
      exact absurd el nl
    · obtain ⟨rfl, rfl⟩ := two a b a' b' h1 h2 g1 g2 e1 e2 f1 f2
      rw [z1] at z1'; cases z1'
      rw [z2] at z2'; cases z2'
      exact absurd ⟨by rw [q1, q3]; exact pt _ _ _ s40 q4, by rw [q2, q3]; exact pt _ _ _ t40 q5⟩ np
    · obtain ⟨rfl, rfl⟩ := two a b a' b' h1 h2 g1 g2 e1 e2 f1 f2
      rw [z1] at z1'; cases z1'
      rw [z2] at z2'; cases z2'
      obtain rfl : i' = i2 := nIj (by omega) (by omega) (q1.symm.trans p1)
      obtain rfl : j' = j2 := nIj (by omega) (by omega) (q2.symm.trans p2)
      obtain rfl : k' = k2 := nIj (by omega) (by omega) (q3.symm.trans p3)
      obtain ⟨⟨m1, m2, m3, m4, m5, m6⟩, m7, m8, m8b, m9⟩ := hR.2.2.2.2.2.1
      refine hk2 _ _ (RD.misc (V2 := up2 V 603 1 0) (W2 := va_up W (300 + b') (va_cpy (W (300 + a')) (W (300 + b')) i' j' k')) (I2 := upd I 700 0) (A2 := va_up A 703 (va_cpy (A 703) (A 703) (40 * a' + i') (40 * b' + j') k')) (by2 := by') (tm2 := tm) (rs2 := rs) hR.t1 hR.1 (fun s hs => ⟨up2_nf (by decide), up2_nf (by decide)⟩) (fun s hs => ⟨va_up_ne _ _ (by omega), va_up_ne _ _ (by omega)⟩) (fun k hk => if_neg (by omega)) (fun f hf => va_up_ne _ _ (by omega)) hR.2.1.2.2.2.2.1 hR.2.1.2.2.2.2.2 ?_ ⟨⟨m1, m2, m3, m4, ?_, m6⟩, ?_, fun j hj => ?_, fun r' hr' => ?_, fun r' hr' s' hs' => ?_⟩).toX
      · unfold RIn; rw [va_up_ne _ _ (by decide)]; exact hri
      · rw [up2_eq]; rfl
      · rw [va_up_ne W _ (show 4 ≠ 300 + b' by omega), va_up_ne A _ (show (705 : Nat) ≠ 703 by decide)]; exact m7
      · rw [va_up_ne W _ (show 5 ≠ 300 + b' by omega), va_up_ne A _ (show (738 : Nat) ≠ 703 by decide)]; exact m8 j hj
      · rw [up2_nf (by decide), va_up_ne A _ (show (701 : Nat) ≠ 703 by decide)]; exact m8b r' hr'
      · rw [up2_nf (by decide), va_up_ne A _ (show (702 : Nat) ≠ 703 by decide), va_up_self]
        obtain ⟨r40, rl, rw2⟩ := hR.row hr' hs'
        refine ⟨rl, fun i hi => ?_⟩
        by_cases c : r' = b'
        · subst c
          rw [va_up_self]
          unfold va_cpy
          by_cases c2 : j' ≤ i ∧ i < j' + k'
          · rw [if_pos c2, if_pos (by omega), sw' _ (by omega)]
            congr 1
            omega
          · rw [if_neg c2, if_neg (by omega)]; exact rw2 i hi
        · rw [va_up_ne W _ (show 300 + r' ≠ 300 + b' by omega)]
          unfold va_cpy
          rw [if_neg (by omega)]; exact rw2 i hi
end Q11
