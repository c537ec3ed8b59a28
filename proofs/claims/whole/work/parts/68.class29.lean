/-! ===== the class: reading a clerk, a rest ===== -/
section R5
variable {d q p t Bn pl nb nr nc : Nat} {ch on ki ha : Nat → Int32} {ra ru : Int32} {h : hp} {J P : Nat → Int32} {B : Nat → Nat → Int32} {kk : Rt}
theorem c_lookForRoomE {sg th mo : Int32} {th' : Int32} (eth : th = th') (hS : RS h (q + 1) p t) (hb : J 202 = nI Bn) (hb2 : Bn ≤ 120) (hp : J 203 = nI pl) (hp2 : pl ≤ 1000) (h0 : ¬ (J 204 = 0 ∧ letR (haI h t) Bn pl = sg ∧ ¬ th' < mo) → kk none (RU h (q + 1) p J P B)) (h1 : J 204 = 0 → letR (haI h t) Bn pl = sg → ¬ th' < mo → kk none (RU h (q + 1) p (upd J 204 3) P B)) : CL (d + 1) mX2_lookForRoom 0 0 [.inr (.inr (3, q + 1)), .inl sg, .inl th, .inl mo] (RU h (q + 1) p J P B) kk := by
  subst eth
  exact c_lookForRoom hS hb hb2 hp hp2 h0 h1
theorem c_readNumberE {lo hi hi' : Int32} (ehi : hi = hi') (hS : RS h (q + 1) p t) (hb : J 202 = nI Bn) (hb2 : Bn ≤ 120) (hp : J 203 = nI pl) (hp2 : pl ≤ 1000) (h0 : ¬ J 204 = 0 → kk (some (.inl 0)) (RU h (q + 1) p J P B)) (h1 : ∀ f, J 204 = 0 → numR (haI h t) Bn pl lo hi' = .inl f → kk (some (.inl 0)) (RU h (q + 1) p (upd J 204 f) P B)) (h2 : ∀ v r, J 204 = 0 → numR (haI h t) Bn pl lo hi' = .inr (v, r) → kk (some (.inl v)) (RU h (q + 1) p (upd J 203 (nI r)) P B)) : CL d mX2_readNumber 0 0 [.inr (.inr (3, q + 1)), .inl lo, .inl hi] (RU h (q + 1) p J P B) kk := by
  subst ehi
  exact c_readNumber hS hb hb2 hp hp2 h0 h1 h2
set_option maxRecDepth 20000 in
theorem c_readClerk (hS : RS h (q + 1) p t) (hR : RC Bn ra ru (pl, nb, nr, nc, ch, on, ki, ha) J P B) (R : (Int32 × Nat) ⊕ PS) (hRe : R = clerkR (haI h t) Bn (pl, nb, nr, nc, ch, on, ki, ha)) (hkn : ¬ kindN (letR (haI h t) Bn pl) = 0) (hf : RKf kk h q p Bn R) (hg : RKg kk h q p Bn ra ru R) : CL (d + 2) mX2_readClerk 0 0 [.inr (.inr (3, q + 1))] (RU h (q + 1) p J P B) kk := by
  obtain ⟨hp0, hpq, h200⟩ := hS.1
  have e200 : ∀ J P B, hfR (RU h (q + 1) p J P B) 200 (q + 1) = p := fun _ _ _ => h200
  have e104 : ∀ J P B, hfI (RU h (q + 1) p J P B) 104 (hfR (RU h (q + 1) p J P B) 200 (q + 1)) = P 104 := fun J P B => by rw [e200]; exact RU_p hS 104
  obtain ⟨⟨g2, hb2⟩, ⟨g3, hpl⟩, g4, g5, g6, g7, ⟨g8, nc4⟩, i5, i6, i7, i8, i9, i10⟩ := hR
  obtain ⟨T, hT⟩ : ∃ T : Nat → Int32, T = haI h t := ⟨_, rfl⟩
  rw [← hT] at hRe hkn
  dsimp only at g3 hpl g6 nc4 g7 g8 i5 i6 i7 i8 i9
  have q8 : Q8 P := ⟨nb, g6.2, g6.1⟩
  unfold clerkR at hRe
  dsimp only at hRe
  rw [if_neg hkn] at hRe
  obtain ⟨kd, hkd⟩ : ∃ kd : Int32, kd = kindN (letR T Bn pl) := ⟨_, rfl⟩
  have hlt : pl < Bn := by
    apply Nat.lt_of_not_le
    intro z
    apply hkn
    unfold letR
    rw [if_neg (by omega)]
    exact kindN_m1
  refine mw3 T_X2_readClerk (fun Wm go wk => go (cut1 24) 60 0 _ _ _ _ _ ?_)
  refine c_letter hS g2 hb2 g3 (by omega) ?_
  refine c_kindOf ?_
  refine c_letter hS g2 hb2 g3 (by omega) ?_
  have fl46 : ∀ J P B, ¬ J 204 = 0 → kk none (RU h (q + 1) p J P B) → Wm 46 [some (.inr (.inr (3, q + 1))), none, none] [] (RU h (q + 1) p J P B) 0 0 := by
    intro J P B hn hk
    refine go (cut1 53) 30 46 _ _ _ _ _ ?_
    have ef : hfI (RU h (q + 1) p J P B) 204 (q + 1) = J 204 := RU_q _
    exact And.intro (fun k1 => absurd (ef.symm.trans k1) hn) (fun _ => hk)
  have fl40 : ∀ J P B, ¬ J 204 = 0 → kk none (RU h (q + 1) p J P B) → Wm 40 [some (.inr (.inr (3, q + 1))), none, none] [] (RU h (q + 1) p J P B) 0 0 := by
    intro J P B hn hk
    refine go (cut1 46) 30 40 _ _ _ _ _ ?_
    exact c_readSignF hn (fl46 J P B hn hk)
  have fl32 : ∀ J P B, ¬ J 204 = 0 → kk none (RU h (q + 1) p J P B) → Wm 32 [some (.inr (.inr (3, q + 1))), none, none] [] (RU h (q + 1) p J P B) 0 0 := by
    intro J P B hn hk
    refine go (cut1 40) 30 32 _ _ _ _ _ ?_
    exact c_readNumberF hn (wk _ _ _ _ _ _ _ (fl40 J P B hn hk) (by repeat (first | exact ln | refine l0 ?_ | refine l1 rfl ?_)))
  rw [← hT]
  refine nz (by rw [e200]; exact hp0) ?_
  refine c_lookForRoomE ((e104 _ _ _).trans g8) hS g2 hb2 g3 (by omega) (fun z => ?_) (fun _ z1 z2 => ?_)
  · have hnc : nc < 4 := by
      apply Nat.lt_of_not_le
      intro zn
      refine z ⟨g4, by rw [← hT], ?_⟩
      exact Int32.not_lt.mpr ((nI_leI (a := 4) (by omega) (by omega)).mpr zn)
    rw [if_neg (by omega)] at hRe
    refine go (cut1 32) 30 24 _ _ _ _ _ ?_
    refine c_letter hS g2 hb2 g3 (by omega) ?_
    refine c_readSign hS g2 hb2 g3 (by omega) (fun z => absurd g4 z) (fun _ z => absurd rfl z) (fun _ z => ?_)
    refine go (cut1 40) 30 32 _ _ _ _ _ ?_
    refine c_readNumber (pl := pl + 1) hS g2 hb2 rfl (by omega) (fun z => absurd g4 z) (fun f _ z => ?_) (fun v r _ z => ?_)
    · rw [← hT] at z
      rw [nuR_0 z] at hRe
      have hfn : ¬ f = 0 := by rcases numR_f z with rfl | rfl <;> decide
      exact wk _ _ _ _ _ _ _ (fl40 (upd (upd J 203 (nI (pl + 1))) 204 f) P B hfn (hf f (pl + 1) _ P B hRe g2 rfl rfl hfn q8)) (by repeat (first | exact ln | refine l0 ?_ | refine l1 rfl ?_))
    · rw [← hT] at z
      rw [nuR_1 z] at hRe
      have hz := numR_r z
      refine go (cut1 46) 30 40 _ _ _ _ _ ?_
      refine c_readSign (pl := r) hS g2 hb2 rfl (by omega) (fun z => absurd g4 z) (fun _ z => ?_) (fun _ z => ?_)
      · rw [← hT] at z
        rw [sgR_0 z] at hRe
        exact wk _ _ _ _ _ _ _ (fl46 (upd (upd (upd J 203 (nI (pl + 1))) 203 (nI r)) 204 1) P B (show ¬ (1 : Int32) = 0 by decide) (hf 1 r _ P B hRe g2 rfl rfl (by decide) q8)) (by repeat (first | exact ln | refine l0 ?_ | refine l1 rfl ?_))
      · rw [← hT] at z
        rw [sgR_1 z, ← hkd] at hRe
        have hlt2 := letR_lt z (by decide)
        have fin := hg _ (upd (upd (upd J 203 (nI (pl + 1))) 203 (nI r)) 203 (nI (r + 1))) (upd P 104 (nI (nc + 1))) (va_up (va_up B 108 (upd (B 108) nc kd)) 109 (upd (B 109) nc v)) hRe ⟨⟨g2, hb2⟩, ⟨rfl, by show r + 1 ≤ Bn; omega⟩, g4, g5, g6, g7, ⟨rfl, by show nc + 1 ≤ 4; omega⟩, i5, i6, fun j hj => ?_, fun j hj => ?_, i9, i10⟩
        rotate_left
        · show va_up (va_up B 108 (upd (B 108) nc kd)) 109 (upd (B 109) nc v) 108 j = upd ki nc kd j
          have hj : j < nc + 1 := hj
          rw [va_up_ne _ _ (by decide), va_up_self]
          unfold upd
          by_cases qq : j = nc
          · rw [if_pos qq, if_pos qq]
          · rw [if_neg qq, if_neg qq]; exact i7 j (by omega)
        · show va_up (va_up B 108 (upd (B 108) nc kd)) 109 (upd (B 109) nc v) 109 j = upd ha nc v j
          have hj : j < nc + 1 := hj
          rw [va_up_self]
          unfold upd
          by_cases qq : j = nc
          · rw [if_pos qq, if_pos qq]
          · rw [if_neg qq, if_neg qq]; exact i8 j (by omega)
        have g43 : upd (upd (upd J 203 (nI (pl + 1))) 203 (nI r)) 203 (nI (r + 1)) 204 = 0 := g4
        generalize upd (upd (upd J 203 (nI (pl + 1))) 203 (nI r)) 203 (nI (r + 1)) = J3 at *
        refine wmc (Wm := Wm) (L' := [some (.inr (.inr (3, q + 1))), some (.inl kd), some (.inl v)]) (h' := RU h (q + 1) p J3 P B) ?_ (by rw [hkd, hT]; rfl) rfl
        refine go (cut2 69 85) 60 46 _ _ _ _ _ ?_
        have ef : hfI (RU h (q + 1) p J3 P B) 204 (q + 1) = J3 204 := RU_q _
        refine And.intro (fun _ => ?_) (fun z => absurd (ef.trans g43) z)
        refine nz (by rw [e200]; exact hp0) (nz (by rw [e200]; exact hp0) ?_)
        refine rst (f := 108) hS (by decide) (by rw [e200]; rfl) (hS.2.2.2.1 108 (by decide)) (by omega) ((e104 _ _ _).trans g8) hnc ?_
        refine go (cut1 85) 60 69 _ _ _ _ _ ?_
        refine nz (by rw [e200]; exact hp0) (nz (by rw [e200]; exact hp0) ?_)
        refine rst (f := 109) hS (by decide) (by rw [e200]; rfl) (hS.2.2.2.1 109 (by decide)) (by omega) ((e104 _ _ _).trans g8) hnc ?_
        refine go cut0 60 85 _ _ _ _ _ ?_
        refine nz (by rw [e200]; exact hp0) (nz (by rw [e200]; exact hp0) ?_)
        refine kkc fin rfl ?_
        rw [e104, g8, e200]
        show wfI _ 104 p (nI nc + 1) = _
        rw [nI_1]
        exact RU_wP hS _ _
  · have z3 := (nI_leI (a := 4) (by omega) (by omega)).mp (Int32.not_lt.mp z2)
    rw [if_pos (by omega)] at hRe
    refine go (cut1 32) 30 24 _ _ _ _ _ ?_
    refine c_letter (J := upd J 204 3) hS g2 hb2 g3 (by omega) ?_
    refine c_readSignF (J := upd J 204 3) (show ¬ (3 : Int32) = 0 by decide) ?_
    exact wk _ _ _ _ _ _ _ (fl32 (upd J 204 3) P B (show ¬ (3 : Int32) = 0 by decide) (hf 3 pl _ P B hRe g2 g3 rfl (by decide) q8)) (by repeat (first | exact ln | refine l0 ?_ | refine l1 rfl ?_))
end R5
section R6
variable {d q p t Bn pl nb nr nc : Nat} {ch on ki ha : Nat → Int32} {ra ru : Int32} {h : hp} {J P : Nat → Int32} {B : Nat → Nat → Int32} {kk : Rt}
set_option maxRecDepth 20000 in
theorem c_readRest (hS : RS h (q + 1) p t) (hR : RC Bn ra ru (pl, nb, nr, nc, ch, on, ki, ha) J P B) (R : (Int32 × Nat) ⊕ PS) (hRe : R = restR (haI h t) Bn (pl, nb, nr, nc, ch, on, ki, ha)) (hlr : letR (haI h t) Bn pl = 114) (hf : RKf kk h q p Bn R) (hg : RKg kk h q p Bn ra ru R) : CL (d + 2) mX2_readRest 0 0 [.inr (.inr (3, q + 1))] (RU h (q + 1) p J P B) kk := by
  obtain ⟨hp0, hpq, h200⟩ := hS.1
  have e200 : ∀ J P B, hfR (RU h (q + 1) p J P B) 200 (q + 1) = p := fun _ _ _ => h200
  have e102 : ∀ J P B, hfI (RU h (q + 1) p J P B) 102 (hfR (RU h (q + 1) p J P B) 200 (q + 1)) = P 102 := fun J P B => by rw [e200]; exact RU_p hS 102
  have e103 : ∀ J P B, hfI (RU h (q + 1) p J P B) 103 (hfR (RU h (q + 1) p J P B) 200 (q + 1)) = P 103 := fun J P B => by rw [e200]; exact RU_p hS 103
  obtain ⟨⟨g2, hb2⟩, ⟨g3, hpl⟩, g4, g5, ⟨g6, nb8⟩, ⟨g7, nr12⟩, g8, i5, i6, i7, i8, i9, i10⟩ := hR
  obtain ⟨T, hT⟩ : ∃ T : Nat → Int32, T = haI h t := ⟨_, rfl⟩
  rw [← hT] at hRe hlr
  dsimp only at g3 hpl g6 nb8 g7 nr12 g8 i5 i6 i7 i8 i9
  have q8 : Q8 P := ⟨nb, nb8, g6⟩
  have hlt := letR_lt hlr (by decide)
  unfold restR at hRe
  dsimp only at hRe
  refine mw3 T_X2_readRest (fun Wm go wk => go (cut1 15) 60 0 _ _ _ _ _ ?_)
  have fl96 : ∀ J P B, ¬ J 204 = 0 → kk none (RU h (q + 1) p J P B) → Wm 96 [some (.inr (.inr (3, q + 1))), none, none, none] [] (RU h (q + 1) p J P B) 0 0 := by
    intro J P B hn hk
    refine go (cut1 103) 30 96 _ _ _ _ _ ?_
    have ef : hfI (RU h (q + 1) p J P B) 204 (q + 1) = J 204 := RU_q _
    exact And.intro (fun k1 => absurd (ef.symm.trans k1) hn) (fun _ => hk)
  have fl90 : ∀ J P B, ¬ J 204 = 0 → kk none (RU h (q + 1) p J P B) → Wm 90 [some (.inr (.inr (3, q + 1))), none, none, none] [] (RU h (q + 1) p J P B) 0 0 := by
    intro J P B hn hk
    refine go (cut1 96) 30 90 _ _ _ _ _ ?_
    exact c_readSignF hn (fl96 J P B hn hk)
  have fl56 : ∀ J P B, ¬ J 204 = 0 → kk none (RU h (q + 1) p J P B) → Wm 56 [some (.inr (.inr (3, q + 1))), none, none, none] [] (RU h (q + 1) p J P B) 0 0 := by
    intro J P B hn hk
    refine go (cut2 63 90) 30 56 _ _ _ _ _ ?_
    have ef : hfI (RU h (q + 1) p J P B) 204 (q + 1) = J 204 := RU_q _
    exact And.intro (fun k1 => absurd (ef.symm.trans k1) hn) (fun _ => fl90 J P B hn hk)
  have fl42 : ∀ J P B u, ¬ J 204 = 0 → kk none (RU h (q + 1) p J P B) → Wm 42 [some (.inr (.inr (3, q + 1))), some (.inl u), none, none] [] (RU h (q + 1) p J P B) 0 0 := by
    intro J P B u hn hk
    refine go (cut1 56) 30 42 _ _ _ _ _ ?_
    exact c_readNumberF hn (wk _ _ _ _ _ _ _ (fl56 J P B hn hk) (by repeat (first | exact ln | refine l0 ?_ | refine l1 rfl ?_)))
  have fl36 : ∀ J P B u, ¬ J 204 = 0 → kk none (RU h (q + 1) p J P B) → Wm 36 [some (.inr (.inr (3, q + 1))), some (.inl u), none, none] [] (RU h (q + 1) p J P B) 0 0 := by
    intro J P B u hn hk
    refine go (cut1 42) 30 36 _ _ _ _ _ ?_
    exact c_readSignF hn (fl42 J P B u hn hk)
  have fl21 : ∀ J P B, ¬ J 204 = 0 → kk none (RU h (q + 1) p J P B) → Wm 21 [some (.inr (.inr (3, q + 1))), none, none, none] [] (RU h (q + 1) p J P B) 0 0 := by
    intro J P B hn hk
    refine go (cut1 36) 30 21 _ _ _ _ _ ?_
    refine nz (by rw [e200]; exact hp0) ?_
    exact c_readNumberF hn (fl36 J P B 0 hn hk)
  have fl15 : ∀ J P B, ¬ J 204 = 0 → kk none (RU h (q + 1) p J P B) → Wm 15 [some (.inr (.inr (3, q + 1))), none, none, none] [] (RU h (q + 1) p J P B) 0 0 := by
    intro J P B hn hk
    refine go (cut1 21) 30 15 _ _ _ _ _ ?_
    exact c_readSignF hn (fl21 J P B hn hk)
  refine nz (by rw [e200]; exact hp0) ?_
  refine c_lookForRoomE ((e103 _ _ _).trans g7) hS g2 hb2 g3 (by omega) (fun z => ?_) (fun _ z1 z2 => ?_)
  rotate_left
  · have z3 := (nI_leI (a := 12) (by omega) (by omega)).mp (Int32.not_lt.mp z2)
    rw [if_pos (by omega)] at hRe
    exact fl15 (upd J 204 3) P B (show ¬ (3 : Int32) = 0 by decide) (hf 3 pl _ P B hRe g2 g3 rfl (by decide) q8)
  have hnr : nr < 12 := by
    apply Nat.lt_of_not_le
    intro zn
    refine z ⟨g4, by rw [← hT]; exact hlr, ?_⟩
    exact Int32.not_lt.mpr ((nI_leI (a := 12) (by omega) (by omega)).mpr zn)
  rw [if_neg (by omega)] at hRe
  refine go (cut1 21) 30 15 _ _ _ _ _ ?_
  refine c_readSign hS g2 hb2 g3 (by omega) (fun z => absurd g4 z) (fun _ z => absurd (by rw [← hT]; exact hlr) z) (fun _ z => ?_)
  refine go (cut1 36) 30 21 _ _ _ _ _ ?_
  refine nz (by rw [e200]; exact hp0) ?_
  refine c_readNumberE (pl := pl + 1) (hi' := nI nb - 1) (by show hfI _ 102 _ - 1 = _; rw [e102, g6]) hS g2 hb2 rfl (by omega) (fun z => absurd g4 z) (fun f _ z => ?_) (fun u r _ z => ?_)
  · rw [← hT] at z
    rw [nuR_0 z] at hRe
    have hfn : ¬ f = 0 := by rcases numR_f z with rfl | rfl <;> decide
    exact fl36 (upd (upd J 203 (nI (pl + 1))) 204 f) P B 0 hfn (hf f (pl + 1) _ P B hRe g2 rfl rfl hfn q8)
  rw [← hT] at z
  rw [nuR_1 z] at hRe
  obtain ⟨zu, zr1, zr2⟩ := numR_r z
  obtain ⟨u', hu1, hu2⟩ : ∃ u', u' < nb ∧ u = nI u' := inB_of ((inR_B (by omega)).mp zu) (by omega)
  refine go (cut1 42) 30 36 _ _ _ _ _ ?_
  refine c_readSign (pl := r) hS g2 hb2 rfl (by omega) (fun z => absurd g4 z) (fun _ z => ?_) (fun _ z => ?_)
  · rw [← hT] at z
    rw [sgR_0 z] at hRe
    exact fl42 (upd (upd (upd J 203 (nI (pl + 1))) 203 (nI r)) 204 1) P B u (show ¬ (1 : Int32) = 0 by decide) (hf 1 r _ P B hRe g2 rfl rfl (by decide) q8)
  rw [← hT] at z
  rw [sgR_1 z] at hRe
  have hlt2 := letR_lt z (by decide)
  have j42 : upd (upd (upd J 203 (nI (pl + 1))) 203 (nI r)) 203 (nI (r + 1)) 202 = nI Bn := g2
  have j43 : upd (upd (upd J 203 (nI (pl + 1))) 203 (nI r)) 203 (nI (r + 1)) 203 = nI (r + 1) := rfl
  have j44 : upd (upd (upd J 203 (nI (pl + 1))) 203 (nI r)) 203 (nI (r + 1)) 204 = 0 := g4
  generalize upd (upd (upd J 203 (nI (pl + 1))) 203 (nI r)) 203 (nI (r + 1)) = J3 at *
  refine go (cut1 56) 30 42 _ _ _ _ _ ?_
  refine c_readNumber (pl := r + 1) hS j42 hb2 j43 (by omega) (fun z => absurd j44 z) (fun f _ z => ?_) (fun l r2 _ z => ?_)
  · rw [← hT] at z
    have z : numR T Bn (r + 1) 0 (u - 1) = .inl f := z
    rw [nuR_0 z] at hRe
    have hfn : ¬ f = 0 := by rcases numR_f z with rfl | rfl <;> decide
    exact wk _ _ _ _ _ _ _ (fl56 (upd J3 204 f) P B hfn (hf f (r + 1) _ P B hRe j42 j43 rfl hfn q8)) (by repeat (first | exact ln | refine l0 ?_ | refine l1 rfl ?_))
  rw [← hT] at z
  have z : numR T Bn (r + 1) 0 (u - 1) = .inr (l, r2) := z
  rw [nuR_1 z] at hRe
  obtain ⟨zl, zl1, zl2⟩ := numR_r z
  subst hu2
  rw [nI_clamp (by omega)] at hRe
  have b6 : B 106 u' = on u' := i6 u' (by omega)
  have e23 : hfI (RU h (q + 1) p J3 P B) 203 (q + 1) = nI (r + 1) := (RU_q _).trans j43
  refine wmc (Wm := Wm) (L' := [some (.inr (.inr (3, q + 1))), some (.inl (nI u')), some (.inl (nI (r + 1))), some (.inl l)]) (h' := RU h (q + 1) p (upd J3 203 (nI r2)) P B) ?_ (by rw [← e23]; rfl) rfl
  have m42 : upd J3 203 (nI r2) 202 = nI Bn := j42
  have m43 : upd J3 203 (nI r2) 203 = nI r2 := rfl
  have m44 : upd J3 203 (nI r2) 204 = 0 := j44
  have m45 : upd (upd J3 203 (nI r2)) 203 (nI (r + 1)) 202 = nI Bn := j42
  generalize upd J3 203 (nI r2) = J4 at *
  refine go (cut1 90) 60 56 _ _ _ _ _ ?_
  have ef : hfI (RU h (q + 1) p J4 P B) 204 (q + 1) = J4 204 := RU_q _
  refine And.intro (fun _ => ?_) (fun z => absurd (ef.trans m44) z)
  refine nz (by rw [e200]; exact hp0) ?_
  refine rld (f := 106) hS (by decide) (by rw [e200]; rfl) (hS.2.2.1 106 (by decide)) (by omega) rfl (show u' < 8 by omega) ?_
  rw [b6]
  refine And.intro (fun zb => ?_) (fun zb => ?_)
  · have zb : hasB (on u') l := zb
    rw [if_pos zb] at hRe
    refine wmc (Wm := Wm) (h' := RU h (q + 1) p (upd (upd J4 203 (nI (r + 1))) 204 2) P B) ?_ rfl (by rw [RU_wJ, RU_wJ])
    exact wk _ _ _ _ _ _ _ (fl90 (upd (upd J4 203 (nI (r + 1))) 204 2) P B (show ¬ (2 : Int32) = 0 by decide) (hf 2 (r + 1) _ P B hRe m45 rfl rfl (by decide) q8)) (by repeat (first | exact ln | refine l0 ?_ | refine l1 rfl ?_))
  · have zb : ¬ hasB (on u') l := zb
    rw [if_neg zb] at hRe
    refine go (cut1 96) 30 90 _ _ _ _ _ ?_
    refine c_readSign (pl := r2) hS m42 hb2 m43 (by omega) (fun z => absurd m44 z) (fun _ z => ?_) (fun _ z => ?_)
    · rw [← hT] at z
      rw [sgR_0 z] at hRe
      exact wk _ _ _ _ _ _ _ (fl96 (upd J4 204 1) P B (show ¬ (1 : Int32) = 0 by decide) (hf 1 r2 _ P B hRe m42 m43 rfl (by decide) q8)) (by repeat (first | exact ln | refine l0 ?_ | refine l1 rfl ?_))
    · rw [← hT] at z
      rw [sgR_1 z] at hRe
      have hlt3 := letR_lt z (by decide)
      have fin := hg _ (upd J4 203 (nI (r2 + 1))) (upd P 103 (nI (nr + 1))) (va_up B 106 (upd (B 106) u' (B 106 u' ||| (1 <<< (l &&& 31))))) hRe ⟨⟨m42, hb2⟩, ⟨rfl, by show r2 + 1 ≤ Bn; omega⟩, m44, g5, ⟨g6, nb8⟩, ⟨rfl, by show nr + 1 ≤ 12; omega⟩, g8, i5, fun j hj => ?_, i7, i8, fun j hj => ?_, fun j hj => ?_⟩
      rotate_left
      · show va_up B 106 (upd (B 106) u' (B 106 u' ||| (1 <<< (l &&& 31)))) 106 j = upd on u' (on u' ||| (1 <<< (l &&& 31))) j
        rw [va_up_self, b6]
        unfold upd
        rw [i6 j hj]
      · show ch j = 0 ∧ upd on u' (on u' ||| (1 <<< (l &&& 31))) j = 0
        have hj : nb ≤ j := hj
        unfold upd
        rw [if_neg (by omega)]
        exact i9 j hj
      · exact i10 j hj
      have m64 : upd J4 203 (nI (r2 + 1)) 204 = 0 := m44
      generalize upd J4 203 (nI (r2 + 1)) = J5 at *
      refine go (cut1 118) 60 96 _ _ _ _ _ ?_
      have ef : hfI (RU h (q + 1) p J5 P B) 204 (q + 1) = J5 204 := RU_q _
      refine And.intro (fun _ => ?_) (fun z => absurd (ef.trans m64) z)
      refine nz (by rw [e200]; exact hp0) ?_
      refine rld (f := 106) hS (by decide) (by rw [e200]; rfl) (hS.2.2.1 106 (by decide)) (by omega) rfl (show u' < 8 by omega) ?_
      refine rst (f := 106) hS (by decide) (by rw [e200]; rfl) (hS.2.2.1 106 (by decide)) (by omega) rfl (show u' < 8 by omega) ?_
      refine go cut0 60 118 _ _ _ _ _ ?_
      refine nz (by rw [e200]; exact hp0) (nz (by rw [e200]; exact hp0) ?_)
      refine kkc fin rfl ?_
      rw [e103, g7, e200]
      show wfI _ 103 p (nI nr + 1) = _
      rw [nI_1]
      exact RU_wP hS _ _
end R6
