/-! ===== pairs: writings ===== -/
section Q20
variable {H : hp} {K : Nat → Nat} {V W : Nat → Nat → Int32} {y x n cm at' am by' tm t : Nat} {I : Nat → Int32} {A : Nat → Nat → Int32} {rs : Nat → Option Nat}
theorem b_writings {rw' i many k : Int32} (hmv : MVal H (x + 1) I A) (hR : RD H K V W (y + 1) (x + 1) I A n cm at' am by' tm rs t) : Both 0 0 mX6_writings mX7_writings [.inl rw', .inl i, .inl many, .inl k] (y + 1) (x + 1) (CU H K V W) (INV (y + 1) (x + 1) (t + 1)) := by
  intro kk1 hk1
  have n8 := hR.n8
  have c4 := hR.c4
  have hrw := hR.rl
  have hri := hR.2.2.1
  have ok : ∀ r m, r < 8 → rw' = nI r → 1 ≤ m → m ≤ 4 → many = nI m → ¬ k < -1 → inB rw' 8 ∧ inR many 1 4 ∧ ¬ k < -1 := fun r m h2 e2 h3 h4 e3 h5 => ⟨by rw [e2]; exact inB_nI h2 (by omega), by rw [e3]; exact ⟨(nI_leI (a := 1) (by omega) (by omega)).mpr h3, (nI_leI (b := 4) (by omega) (by omega)).mpr h4⟩, h5⟩
  have eqs : ∀ r m r' m', r < 8 → rw' = nI r → m ≤ 4 → many = nI m → r' < 8 → rw' = nI r' → m' ≤ 4 → many = nI m' → r' = r ∧ m' = m := fun r m r' m' a3 a4 a5 a6 b3 b4 b5 b6 => ⟨nIj (by omega) (by omega) (b4.symm.trans a4), nIj (by omega) (by omega) (b6.symm.trans a6)⟩
  have pt : ∀ s i' k', s ≤ 40 → i' + k' ≤ s → isPt s (nI i') (nI k') := fun s i' k' hs h => by
    unfold isPt
    rw [nI_toInt (by omega), nI_toInt (by omega)]
    omega
  refine c_writings hR.cs hR.pn hrw (fun c => ro hmv hR hk1 (fun kk2 h2 => m_writings hR.ms hR.mi hri (fun _ => h2 A (EA.rf A)) (fun z _ => absurd c (by omega)) (fun r m z _ _ _ _ _ _ _ => absurd c (by omega)) (fun r m s z _ _ _ _ _ _ _ _ => absurd c (by omega)) (fun r m s i' z _ _ _ _ _ _ _ _ _ _ _ => absurd c (by omega)) (fun r m s i' ca A' z _ _ _ _ _ _ _ _ _ _ _ _ _ => absurd c (by omega))))
    (fun c q => ro hmv hR hk1 (fun kk2 h2 => m_writings hR.ms hR.mi hri (fun z => absurd z (by omega)) (fun _ _ => h2 A (EA.rf A)) (fun r m _ a1 a2 a3 a4 a5 a6 _ => absurd (ok r m a1 a2 a3 a4 a5 a6) q) (fun r m s _ a1 a2 a3 a4 a5 a6 _ _ => absurd (ok r m a1 a2 a3 a4 a5 a6) q) (fun r m s i' _ a1 a2 a3 a4 a5 a6 _ _ _ _ _ => absurd (ok r m a1 a2 a3 a4 a5 a6) q) (fun r m s i' ca A' _ a1 a2 a3 a4 a5 a6 _ _ _ _ _ _ _ => absurd (ok r m a1 a2 a3 a4 a5 a6) q)))
    (fun r m c a1 a2 a3 a4 a5 a6 en => gen hmv hR.sm hk1 (fun kk2 hk2 => m_writings hR.ms hR.mi hri (fun z => absurd z (by omega)) (fun _ q => absurd (ok r m a1 a2 a3 a4 a5 a6) q) (fun _ _ _ _ _ _ _ _ _ _ => hk2 _ _ hR.t1.stat.toX) (fun r' m' s _ b1 b2 b3 b4 b5 b6 es _ => ?_) (fun r' m' s i' _ b1 b2 b3 b4 b5 b6 es _ _ _ _ => ?_) (fun r' m' s i' ca A' _ b1 b2 b3 b4 b5 b6 es _ _ _ _ _ _ => ?_)))
    (fun r m s c a1 a2 a3 a4 a5 a6 es np => gen hmv hR.sm hk1 (fun kk2 hk2 => m_writings hR.ms hR.mi hri (fun z => absurd z (by omega)) (fun _ q => absurd (ok r m a1 a2 a3 a4 a5 a6) q) (fun r' m' _ b1 b2 b3 b4 b5 b6 en => ?_) (fun _ _ _ _ _ _ _ _ _ _ _ _ => hk2 _ _ hR.t1.stat.toX) (fun r' m' s' i' _ b1 b2 b3 b4 b5 b6 es' ei hi _ _ => ?_) (fun r' m' s' i' ca A' _ b1 b2 b3 b4 b5 b6 es' ei hi _ _ _ _ => ?_)))
    (fun r m s i' c a1 a2 a3 a4 a5 a6 es ei hi nl => ro hmv hR hk1 (fun kk2 hk2 => m_writings hR.ms hR.mi hri (fun z => absurd z (by omega)) (fun _ q => absurd (ok r m a1 a2 a3 a4 a5 a6) q) (fun r' m' _ b1 b2 b3 b4 b5 b6 en => ?_) (fun r' m' s' _ b1 b2 b3 b4 b5 b6 es' np => ?_) (fun _ _ _ _ _ _ _ _ _ _ _ _ _ _ _ _ => hk2 A (EA.rf A)) (fun r' m' s' i2 ca A' _ b1 b2 b3 b4 b5 b6 es' ei' hi' _ y1 y2 _ => ?_)))
    (fun r m s i' ca a w fw V2 W2 c a1 a2 a3 a4 a5 a6 es ei hi y1 y2 ha hv hw => ?_)
  · obtain ⟨rfl, rfl⟩ := eqs r m r' m' a1 a2 a4 a5 b1 b2 b4 b5
    rw [en] at es; cases es
  · obtain ⟨rfl, rfl⟩ := eqs r m r' m' a1 a2 a4 a5 b1 b2 b4 b5
    rw [en] at es; cases es
  · obtain ⟨rfl, rfl⟩ := eqs r m r' m' a1 a2 a4 a5 b1 b2 b4 b5
    rw [en] at es; cases es
  · obtain ⟨rfl, rfl⟩ := eqs r m r' m' a1 a2 a4 a5 b1 b2 b4 b5
    rw [en] at es; cases es
  · obtain ⟨rfl, rfl⟩ := eqs r m r' m' a1 a2 a4 a5 b1 b2 b4 b5
    rw [es] at es'; cases es'
    exact absurd (by rw [ei]; exact pt _ _ _ (hR.row a1 es).1 hi) np
  · obtain ⟨rfl, rfl⟩ := eqs r m r' m' a1 a2 a4 a5 b1 b2 b4 b5
    rw [es] at es'; cases es'
    exact absurd (by rw [ei]; exact pt _ _ _ (hR.row a1 es).1 hi) np
  · obtain ⟨rfl, rfl⟩ := eqs r m r' m' a1 a2 a4 a5 b1 b2 b4 b5
    rw [en] at es; cases es
  · obtain ⟨rfl, rfl⟩ := eqs r m r' m' a1 a2 a4 a5 b1 b2 b4 b5
    rw [es] at es'; cases es'
    exact absurd (by rw [ei]; exact pt _ _ _ (hR.row a1 es).1 hi) np
  · obtain ⟨rfl, rfl⟩ := eqs r m r' m' a1 a2 a4 a5 b1 b2 b4 b5
    rw [es] at es'; cases es'
    obtain ⟨s40, -, sw'⟩ := hR.row a1 es
    obtain rfl : i' = i2 := nIj (by omega) (by omega) (ei.symm.trans ei')
    refine absurd (fun w hw => ⟨?_, ?_⟩) nl
    · rw [sw' _ (by omega), (y1 w hw).1]; exact inB_nI (y1 w hw).2 (by omega)
    · rw [sw' _ (by omega)]; exact y2 w hw
  · obtain ⟨s40, -, sw'⟩ := hR.row a1 es
    have hR2 := (hR.t1.stat (v := 0)).ve hv hw
    refine gen hmv hR2.sm hk1 (fun kk2 hk2 => m_writings (h := CU H K V2 W2) hR2.sm.1 hR.mi hri (fun z => absurd z (by omega)) (fun _ q => absurd (ok r m a1 a2 a3 a4 a5 a6) q) (fun r' m' _ b1 b2 b3 b4 b5 b6 en => ?_) (fun r' m' s' _ b1 b2 b3 b4 b5 b6 es' np => ?_) (fun r' m' s' i2 _ b1 b2 b3 b4 b5 b6 es' ei' hi' _ nl => ?_) (fun r' m' s' i2 ca' A' _ b1 b2 b3 b4 b5 b6 es' ei' hi' _ y1' y2' eA => ?_))
    · obtain ⟨rfl, rfl⟩ := eqs r m r' m' a1 a2 a4 a5 b1 b2 b4 b5
      rw [en] at es; cases es
    · obtain ⟨rfl, rfl⟩ := eqs r m r' m' a1 a2 a4 a5 b1 b2 b4 b5
      rw [es] at es'; cases es'
      exact absurd (by rw [ei]; exact pt _ _ _ s40 hi) np
    · obtain ⟨rfl, rfl⟩ := eqs r m r' m' a1 a2 a4 a5 b1 b2 b4 b5
      rw [es] at es'; cases es'
      obtain rfl : i' = i2 := nIj (by omega) (by omega) (ei.symm.trans ei')
      refine absurd (fun w hw => ⟨?_, ?_⟩) nl
      · rw [← sw' _ (by omega), (y1 w hw).1]; exact inB_nI (y1 w hw).2 (by omega)
      · rw [← sw' _ (by omega)]; exact y2 w hw
    · obtain ⟨rfl, rfl⟩ := eqs r m r' m' a1 a2 a4 a5 b1 b2 b4 b5
      rw [es] at es'; cases es'
      obtain rfl : i' = i2 := nIj (by omega) (by omega) (ei.symm.trans ei')
      refine kki (hk2 _ A' (hR2.ea eA).toX) ?_ rfl
      obtain ⟨nd, hnd⟩ : ∃ nd : Nat → Int32, nd = fun w => tkC H (hfR H 604 (y + 1)) V (ca w) (W (300 + r') (i' + 2 * w + 1)) := ⟨_, rfl⟩
      rw [← hnd]
      have eca : ∀ w, w < m' → ca w = ca' w := fun w hw => by
        have q1 := (y1 w hw).1
        rw [sw' _ (by omega), (y1' w hw).1] at q1
        have q2 := (y1 w hw).2
        have q3 := (y1' w hw).2
        exact (nIj (by omega) (by omega) q1).symm
      have etk : ∀ w, w < m' → wtk A r' i' ca' w = nd w := fun w hw => by
        rw [hnd]
        show tkN A (ca' w) _ = tkC H (hfR H 604 (y + 1)) V (ca w) (W (300 + r') (i' + 2 * w + 1))
        rw [hR.tk (y1 w hw).2, sw' _ (by omega), eca w hw]
      have hz : ∀ d, d < m' → ∃ z, z < 2 ^ 31 ∧ nd d = nI z := fun d hd => by
        obtain ⟨l, l1, l2, el⟩ := inR_n (a := 1) (b := 30) (by decide) (y2' d hd) (by decide)
        obtain ⟨k', hd', dd, hk', hh, -, -, et⟩ := hR.tkn (y1' d hd).2
        rw [← etk d hd]
        show ∃ z, z < 2 ^ 31 ∧ tkN A (ca' d) (A 703 (40 * r' + (i' + 2 * d + 1))) = nI z
        rw [el, et l (by omega)]
        have := tkZ_le (l := l) (dd := dd) hk'.1 hk'.2 hh.2 (by omega)
        exact ⟨_, by omega, rfl⟩
      have eup : (fun code => sbV (pA H (hfR H 604 (y + 1)) 106) n (chT nd (dgt n m' code) (m' - m') a m')) = wrU A n r' i' m' ca' := by
        funext code
        rw [Nat.sub_self]
        have hd : ∀ w, dgt n m' code w < 8 := fun w => Nat.lt_of_lt_of_le (Nat.mod_lt _ c) n8
        show _ = sbV (A 712) n (chS (wtk A r' i' ca') (dgt n m' code) (A 715) m')
        rcases chST (nd := nd) (tk := wtk A r' i' ca') (dg := dgt n m' code) (a := A 715) (b := a) hd (fun j hj => by rw [ha j hj, hR.w1 hj]) m' etk with ⟨q1, q2⟩ | ⟨u, v, q1, q2, q3⟩
        · rw [q1, q2]; rfl
        · rw [q1, q2]
          show cnP (pA H (hfR H 604 (y + 1)) 106) n v = bitsI (stP (A 712) (posB u) n)
          have : stP (pA H (hfR H 604 (y + 1)) 106) (posB v) n = stP (A 712) (posB u) n := stP_congr (fun k hk => ⟨hR.on (by omega), by unfold posB; rw [q3 k (by omega)]⟩)
          unfold cnP
          rw [this]
      rw [tb_bf n8 hz m' (Nat.le_refl m') a w (-1, fw), bf_bw c n8 m' (Nat.le_refl m') a w (-1, fw) (Int32.le_refl _), eup]
      obtain ⟨g1, g2⟩ := bwS_G (up := wrU A n r' i' m' ca') (wf := fun c => pth n m' (m' - m') c w) (fw := fw) (n ^ m')
      generalize bwG (wrU A n r' i' m' ca') (fun c => pth n m' (m' - m') c w) (n ^ m') (-1, fw) = R at *
      generalize bwS (wrU A n r' i' m' ca') (n ^ m') = bw at *
      unfold wrV wrC
      rw [g1]
      by_cases q0 : bw.1 < 0 ∨ ¬ k < nI m'
      · rw [if_pos q0, if_pos q0]
      · rw [if_neg q0, if_neg q0]
        by_cases q1 : k < 0
        · rw [if_pos q1, if_pos q1]
        · rw [if_neg q1, if_neg q1]
          have km : k < nI m' := by
            apply Classical.byContradiction
            intro z
            exact q0 (Or.inr z)
          obtain ⟨k', hk', rfl⟩ := nI_of q1
          have hlt := (nI_ltI hk' (by omega)).mp km
          rw [nI_clamp hk']
          rcases g2 with g2 | g2
          · exact absurd (Or.inl (by rw [g2]; decide)) q0
          · rw [g2]
            show nI (dgt n m' bw.2 k') = (if m' - m' ≤ k' ∧ k' < m' then nI (dgt n m' bw.2 k') else w k')
            rw [if_pos (by omega)]
end Q20
