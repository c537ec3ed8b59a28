/-! ===== the class: reading the law, a block ===== -/
def RC (Bn : Nat) (ra ru : Int32) (S : PS) (J P : Nat → Int32) (B : Nat → Nat → Int32) : Prop :=
  (J 202 = nI Bn ∧ Bn ≤ 120) ∧ (J 203 = nI S.1 ∧ S.1 ≤ Bn) ∧ J 204 = 0 ∧ (P 100 = ra ∧ P 101 = ru) ∧ (P 102 = nI S.2.1 ∧ S.2.1 ≤ 8) ∧ (P 103 = nI S.2.2.1 ∧ S.2.2.1 ≤ 12) ∧ (P 104 = nI S.2.2.2.1 ∧ S.2.2.2.1 ≤ 4) ∧ (∀ j, j < 8 → B 105 j = S.2.2.2.2.1 j) ∧ (∀ j, j < 8 → B 106 j = S.2.2.2.2.2.1 j) ∧ (∀ j, j < S.2.2.2.1 → B 108 j = S.2.2.2.2.2.2.1 j) ∧ (∀ j, j < S.2.2.2.1 → B 109 j = S.2.2.2.2.2.2.2 j) ∧ (∀ j, S.2.1 ≤ j → S.2.2.2.2.1 j = 0 ∧ S.2.2.2.2.2.1 j = 0) ∧ ∀ j, j < 8 → B 107 j = 0
/-- a plan has at most 8 BLOCKs -/
def Q8 (P : Nat → Int32) : Prop := ∃ n, n ≤ 8 ∧ P 102 = nI n
/-- ends of a reading: a fault, or a state -/
abbrev RKf {α : Type} (kk : Rt) (h : hp) (q p Bn : Nat) (R : (Int32 × Nat) ⊕ α) : Prop := ∀ f r J P B, R = .inl (f, r) → J 202 = nI Bn → J 203 = nI r → J 204 = f → ¬ f = 0 → Q8 P → kk none (RU h (q + 1) p J P B)
abbrev RKg (kk : Rt) (h : hp) (q p Bn : Nat) (ra ru : Int32) (R : (Int32 × Nat) ⊕ PS) : Prop := ∀ S J P B, R = .inr S → RC Bn ra ru S J P B → kk none (RU h (q + 1) p J P B)
section R3
variable {d q p t Bn pl : Nat} {h : hp} {J P : Nat → Int32} {B : Nat → Nat → Int32} {kk : Rt}
theorem c_readSignF {sg : Int32} (hf : ¬ J 204 = 0) (hk : kk none (RU h (q + 1) p J P B)) : CL (d + 1) mX2_readSign 0 0 [.inr (.inr (3, q + 1)), .inl sg] (RU h (q + 1) p J P B) kk := by
  refine mw T_X2_readSign (fun Wm go => go cut0 40 0 _ _ _ _ _ ?_)
  have ef : hfI (RU h (q + 1) p J P B) 204 (q + 1) = J 204 := RU_q _
  exact And.intro (fun k1 => absurd (ef.symm.trans k1) hf) (fun _ => hk)
theorem c_readNumberF {lo hi : Int32} (hf : ¬ J 204 = 0) (hk : kk (some (.inl 0)) (RU h (q + 1) p J P B)) : CL d mX2_readNumber 0 0 [.inr (.inr (3, q + 1)), .inl lo, .inl hi] (RU h (q + 1) p J P B) kk := by
  refine mw T_X2_readNumber (fun Wm go => go (cut1 20) 40 0 _ _ _ _ _ ?_)
  have ef : hfI (RU h (q + 1) p J P B) 204 (q + 1) = J 204 := RU_q _
  exact And.intro (fun k1 => absurd (ef.symm.trans k1) hf) (fun _ => hk)
theorem RS_z {q' : Nat} {f : Nat} (hS : RS h q' p t) (hf : f59 f) : hfR h f p ≠ 0 := (hS.2.2.2.2.1 f hf).1
theorem rst {q' a f m k n cu su : Nat} {nx : Nx} {L : Lo} {S : List pv} {i v : Int32} (hS : RS h q' p t) (hf : f59 f) (ea : a = hfR h f p) (hm : haL h (hfR h f p) = m) (m9 : m < 1000) (hi : i = nI k) (hk : k < m) (b : nx n L S (RU h q' p J P (va_up B f (upd (B f) k v))) cu su) : if a = 0 then False else vp_in i (haL (RU h q' p J P B) a) ∧ nx n L S (waI (RU h q' p J P B) a (upd (haI (RU h q' p J P B) a) i.toNatClampNeg v)) cu su := by
  subst ea
  subst hi
  refine nz (RS_z hS hf) (And.intro ?_ ?_)
  · show vp_in (nI k) (haL h (hfR h f p))
    rw [hm]; exact vp_in_nI hk (by omega)
  · rw [nI_clamp (by omega), RU_B hS hf, RU_wB hS hf]; exact b
theorem rld {q' a f m k n cu su : Nat} {nx : Nx} {L : Lo} {S : List pv} {i : Int32} (hS : RS h q' p t) (hf : f59 f) (ea : a = hfR h f p) (hm : haL h (hfR h f p) = m) (m9 : m < 1000) (hi : i = nI k) (hk : k < m) (b : nx n L (.inl (B f k) :: S) (RU h q' p J P B) cu su) : if a = 0 then False else vp_in i (haL (RU h q' p J P B) a) ∧ nx n L (.inl (haI (RU h q' p J P B) a i.toNatClampNeg) :: S) (RU h q' p J P B) cu su := by
  subst ea
  subst hi
  refine nz (RS_z hS hf) (And.intro ?_ ?_)
  · show vp_in (nI k) (haL h (hfR h f p))
    rw [hm]; exact vp_in_nI hk (by omega)
  · rw [nI_clamp (by omega), RU_B hS hf]; exact b
set_option maxRecDepth 20000 in
theorem c_readLaw (hS : RS h (q + 1) p t) (hb : J 202 = nI Bn) (hb2 : Bn ≤ 120) (hj3 : J 203 = 0) (hj4 : J 204 = 0) (hP : P 102 = 0 ∧ P 103 = 0 ∧ P 104 = 0) (hB : ∀ j, j < 8 → B 105 j = 0 ∧ B 106 j = 0 ∧ B 107 j = 0) (hf : RKf kk h q p Bn (lawR (haI h t) Bn))
    (hg : ∀ v w r J P B, lawR (haI h t) Bn = .inr (v, w, r) → RC Bn v w (r, 0, 0, 0, zf, zf, zf, zf) J P B → kk none (RU h (q + 1) p J P B)) : CL (d + 2) mX2_readLaw 0 0 [.inr (.inr (3, q + 1))] (RU h (q + 1) p J P B) kk := by
  obtain ⟨hp0, hpq, h200⟩ := hS.1
  have e200 : ∀ J P B, hfR (RU h (q + 1) p J P B) 200 (q + 1) = p := fun _ _ _ => h200
  have wP : ∀ J P f v, wfI (RU h (q + 1) p J P B) f (hfR (RU h (q + 1) p J P B) 200 (q + 1)) v = RU h (q + 1) p J (upd P f v) B := fun J P f v => by rw [e200]; exact RU_wP hS f v
  obtain ⟨T, hT⟩ : ∃ T : Nat → Int32, T = haI h t := ⟨_, rfl⟩
  rw [← hT] at hf hg
  refine mw T_X2_readLaw (fun Wm go => go (cut1 6) 60 0 _ _ _ _ _ ?_)
  have fl40 : ∀ J P, ¬ J 204 = 0 → P 102 = 0 → (∀ P, P 102 = 0 → kk none (RU h (q + 1) p J P B)) → Wm 40 [some (.inr (.inr (3, q + 1)))] [] (RU h (q + 1) p J P B) 0 0 := by
    intro J P hn hp2 hk
    refine go cut0 30 40 _ _ _ _ _ ?_
    exact c_readSignF hn (hk P hp2)
  have fl26 : ∀ J P, ¬ J 204 = 0 → P 102 = 0 → (∀ P, P 102 = 0 → kk none (RU h (q + 1) p J P B)) → Wm 26 [some (.inr (.inr (3, q + 1)))] [] (RU h (q + 1) p J P B) 0 0 := by
    intro J P hn hp2 hk
    refine go (cut1 40) 60 26 _ _ _ _ _ ?_
    refine c_readNumberF hn ?_
    refine nz (by rw [e200]; exact hp0) ?_
    exact wmc (Wm := Wm) (fl40 J (upd P 101 0) hn hp2 hk) rfl (wP J P 101 0)
  have fl20 : ∀ J P, ¬ J 204 = 0 → P 102 = 0 → (∀ P, P 102 = 0 → kk none (RU h (q + 1) p J P B)) → Wm 20 [some (.inr (.inr (3, q + 1)))] [] (RU h (q + 1) p J P B) 0 0 := by
    intro J P hn hp2 hk
    refine go (cut1 26) 60 20 _ _ _ _ _ ?_
    refine c_readSignF hn ?_
    exact fl26 J P hn hp2 hk
  have fl6 : ∀ J P, ¬ J 204 = 0 → P 102 = 0 → (∀ P, P 102 = 0 → kk none (RU h (q + 1) p J P B)) → Wm 6 [some (.inr (.inr (3, q + 1)))] [] (RU h (q + 1) p J P B) 0 0 := by
    intro J P hn hp2 hk
    refine go (cut1 20) 60 6 _ _ _ _ _ ?_
    refine c_readNumberF hn ?_
    refine nz (by rw [e200]; exact hp0) ?_
    exact wmc (Wm := Wm) (fl20 J (upd P 100 0) hn hp2 hk) rfl (wP J P 100 0)
  have st40 : ∀ v w r J P, lawR T Bn = sgR T Bn r 59 (fun p => .inr (v, w, p)) → r ≤ Bn → J 202 = nI Bn → J 203 = nI r → J 204 = 0 → P 100 = v → P 101 = w → P 102 = 0 ∧ P 103 = 0 ∧ P 104 = 0 → Wm 40 [some (.inr (.inr (3, q + 1)))] [] (RU h (q + 1) p J P B) 0 0 := by
    intro v w r J P el hr g2 g3 g4 p0 p1 pz
    refine go cut0 30 40 _ _ _ _ _ ?_
    refine c_readSign hS g2 hb2 g3 (by omega) (fun z => absurd g4 z) (fun _ z => ?_) (fun _ z => ?_)
    · rw [← hT] at z
      rw [sgR_0 z] at el
      exact hf 1 r _ P B el g2 g3 rfl (by decide) ⟨0, by omega, pz.1⟩
    · rw [← hT] at z
      rw [sgR_1 z] at el
      have hlt := letR_lt z (by decide)
      exact hg v w (r + 1) _ P B el ⟨⟨g2, hb2⟩, ⟨rfl, by show r + 1 ≤ Bn; omega⟩, g4, ⟨p0, p1⟩, ⟨pz.1, Nat.zero_le _⟩, ⟨pz.2.1, Nat.zero_le _⟩, ⟨pz.2.2, Nat.zero_le _⟩, fun j hj => (hB j hj).1, fun j hj => (hB j hj).2.1, fun j hj => absurd hj (Nat.not_lt_zero j), fun j hj => absurd hj (Nat.not_lt_zero j), fun _ _ => ⟨rfl, rfl⟩, fun j hj => (hB j hj).2.2⟩
  have st26 : ∀ v r J P, lawR T Bn = nuR T Bn r 0 10 (fun w p => sgR T Bn p 59 (fun p => .inr (v, w, p))) → r ≤ Bn → J 202 = nI Bn → J 203 = nI r → J 204 = 0 → P 100 = v → P 102 = 0 ∧ P 103 = 0 ∧ P 104 = 0 → Wm 26 [some (.inr (.inr (3, q + 1)))] [] (RU h (q + 1) p J P B) 0 0 := by
    intro v r J P el hr g2 g3 g4 p0 pz
    refine go (cut1 40) 60 26 _ _ _ _ _ ?_
    refine c_readNumber hS g2 hb2 g3 (by omega) (fun z => absurd g4 z) (fun f _ z => ?_) (fun w r' _ z => ?_)
    · rw [← hT] at z
      rw [nuR_0 z] at el
      refine nz (by rw [e200]; exact hp0) ?_
      have hfn : ¬ f = 0 := by rcases numR_f z with rfl | rfl <;> decide
      exact wmc (Wm := Wm) (fl40 (upd J 204 f) (upd P 101 0) hfn pz.1 (fun P hp2 => hf f r _ P B el g2 g3 rfl hfn ⟨0, by omega, hp2⟩)) rfl (wP _ P 101 0)
    · rw [← hT] at z
      rw [nuR_1 z] at el
      have hz := numR_r z
      refine nz (by rw [e200]; exact hp0) ?_
      exact wmc (Wm := Wm) (st40 v w r' (upd J 203 (nI r')) (upd P 101 w) el hz.2.2 g2 rfl g4 p0 rfl pz) rfl (wP _ P 101 w)
  have st20 : ∀ v r J P, lawR T Bn = sgR T Bn r 44 (fun p => nuR T Bn p 0 10 (fun w p => sgR T Bn p 59 (fun p => .inr (v, w, p)))) → r ≤ Bn → J 202 = nI Bn → J 203 = nI r → J 204 = 0 → P 100 = v → P 102 = 0 ∧ P 103 = 0 ∧ P 104 = 0 → Wm 20 [some (.inr (.inr (3, q + 1)))] [] (RU h (q + 1) p J P B) 0 0 := by
    intro v r J P el hr g2 g3 g4 p0 pz
    refine go (cut1 26) 60 20 _ _ _ _ _ ?_
    refine c_readSign hS g2 hb2 g3 (by omega) (fun z => absurd g4 z) (fun _ z => ?_) (fun _ z => ?_)
    · rw [← hT] at z
      rw [sgR_0 z] at el
      exact fl26 (upd J 204 1) P (show ¬ (1 : Int32) = 0 by decide) pz.1 (fun P hp2 => hf 1 r _ P B el g2 g3 rfl (by decide) ⟨0, by omega, hp2⟩)
    · rw [← hT] at z
      rw [sgR_1 z] at el
      have hlt := letR_lt z (by decide)
      exact st26 v (r + 1) (upd J 203 (nI (r + 1))) P el (by omega) g2 rfl g4 p0 pz
  have el : lawR T Bn = sgR T Bn 0 107 (fun p => nuR T Bn p 1 9 (fun v p => sgR T Bn p 44 (fun p => nuR T Bn p 0 10 (fun w p => sgR T Bn p 59 (fun p => .inr (v, w, p)))))) := rfl
  refine c_readSign (pl := 0) hS hb hb2 hj3 (by omega) (fun z => absurd hj4 z) (fun _ z => ?_) (fun _ z => ?_)
  · rw [← hT] at z
    rw [sgR_0 z] at el
    exact fl6 (upd J 204 1) P (show ¬ (1 : Int32) = 0 by decide) hP.1 (fun P hp2 => hf 1 0 _ P B el hb hj3 rfl (by decide) ⟨0, by omega, hp2⟩)
  · rw [← hT] at z
    rw [sgR_1 z] at el
    have hlt := letR_lt z (by decide)
    refine go (cut1 20) 60 6 _ _ _ _ _ ?_
    refine c_readNumber (pl := 1) hS hb hb2 rfl (by omega) (fun z => absurd hj4 z) (fun f _ z => ?_) (fun v r' _ z => ?_)
    · rw [← hT] at z
      rw [nuR_0 z] at el
      refine nz (by rw [e200]; exact hp0) ?_
      have hfn : ¬ f = 0 := by rcases numR_f z with rfl | rfl <;> decide
      exact wmc (Wm := Wm) (fl20 (upd (upd J 203 (nI (0 + 1))) 204 f) (upd P 100 0) hfn hP.1 (fun P hp2 => hf f (0 + 1) _ P B el hb rfl rfl hfn ⟨0, by omega, hp2⟩)) rfl (wP _ P 100 0)
    · rw [← hT] at z
      rw [nuR_1 z] at el
      have hz := numR_r z
      refine nz (by rw [e200]; exact hp0) ?_
      exact wmc (Wm := Wm) (st20 v r' (upd (upd J 203 (nI (0 + 1))) 203 (nI r')) (upd P 100 v) el hz.2.2 hb rfl hj4 rfl hP) rfl (wP _ P 100 v)
end R3
section R4
variable {d q p t Bn pl nb nr nc : Nat} {ch on ki ha : Nat → Int32} {ra ru : Int32} {h : hp} {J P : Nat → Int32} {B : Nat → Nat → Int32} {kk : Rt}
set_option maxRecDepth 20000 in
theorem c_readBlock (hS : RS h (q + 1) p t) (hR : RC Bn ra ru (pl, nb, nr, nc, ch, on, ki, ha) J P B) (R : (Int32 × Nat) ⊕ PS) (hRe : R = if letR (haI h t) Bn pl = 98 then blockR (haI h t) Bn (pl, nb, nr, nc, ch, on, ki, ha) else .inl (1, pl)) (hf : RKf kk h q p Bn R) (hg : RKg kk h q p Bn ra ru R) : CL (d + 2) mX2_readBlock 0 0 [.inr (.inr (3, q + 1))] (RU h (q + 1) p J P B) kk := by
  obtain ⟨hp0, hpq, h200⟩ := hS.1
  have e200 : ∀ J P B, hfR (RU h (q + 1) p J P B) 200 (q + 1) = p := fun _ _ _ => h200
  have e102 : ∀ J P B, hfI (RU h (q + 1) p J P B) 102 (hfR (RU h (q + 1) p J P B) 200 (q + 1)) = P 102 := fun J P B => by rw [e200]; exact RU_p hS 102
  obtain ⟨⟨g2, hb2⟩, ⟨g3, hpl⟩, g4, g5, ⟨g6, nb8⟩, g7, g8, i5, i6, i7, i8, i9, i10⟩ := hR
  obtain ⟨T, hT⟩ : ∃ T : Nat → Int32, T = haI h t := ⟨_, rfl⟩
  rw [← hT] at hRe
  dsimp only at g3 hpl g6 nb8 g7 g8 i5 i6 i7 i8 i9
  have q8 : Q8 P := ⟨nb, nb8, g6⟩
  refine mw3 T_X2_readBlock (fun Wm go wk => go (cut1 15) 60 0 _ _ _ _ _ ?_)
  have fl35 : ∀ J P B, ¬ J 204 = 0 → kk none (RU h (q + 1) p J P B) → Wm 35 [some (.inr (.inr (3, q + 1))), none] [] (RU h (q + 1) p J P B) 0 0 := by
    intro J P B hn hk
    refine go (cut1 42) 30 35 _ _ _ _ _ ?_
    have ef : hfI (RU h (q + 1) p J P B) 204 (q + 1) = J 204 := RU_q _
    exact And.intro (fun k1 => absurd (ef.symm.trans k1) hn) (fun _ => hk)
  have fl29 : ∀ J P B, ¬ J 204 = 0 → kk none (RU h (q + 1) p J P B) → Wm 29 [some (.inr (.inr (3, q + 1))), none] [] (RU h (q + 1) p J P B) 0 0 := by
    intro J P B hn hk
    refine go (cut1 35) 30 29 _ _ _ _ _ ?_
    exact c_readSignF hn (fl35 J P B hn hk)
  have fl21 : ∀ J P B, ¬ J 204 = 0 → kk none (RU h (q + 1) p J P B) → Wm 21 [some (.inr (.inr (3, q + 1))), none] [] (RU h (q + 1) p J P B) 0 0 := by
    intro J P B hn hk
    refine go (cut1 29) 30 21 _ _ _ _ _ ?_
    exact c_readNumberF hn (wk _ _ _ _ _ _ _ (fl29 J P B hn hk) (by repeat (first | exact ln | refine l0 ?_ | refine l1 rfl ?_)))
  have fl15 : ∀ J P B, ¬ J 204 = 0 → kk none (RU h (q + 1) p J P B) → Wm 15 [some (.inr (.inr (3, q + 1))), none] [] (RU h (q + 1) p J P B) 0 0 := by
    intro J P B hn hk
    refine go (cut1 21) 30 15 _ _ _ _ _ ?_
    exact c_readSignF hn (fl21 J P B hn hk)
  have st15 : (letR T Bn pl = 98 → nb < 8) → Wm 15 [some (.inr (.inr (3, q + 1))), none] [] (RU h (q + 1) p J P B) 0 0 := by
    intro hnb
    refine go (cut1 21) 30 15 _ _ _ _ _ ?_
    refine c_readSign hS g2 hb2 g3 (by omega) (fun z => absurd g4 z) (fun _ z => ?_) (fun _ z => ?_)
    · rw [← hT] at z
      rw [if_neg z] at hRe
      exact fl21 (upd J 204 1) P B (show ¬ (1 : Int32) = 0 by decide) (hf 1 pl _ P B hRe g2 g3 rfl (by decide) q8)
    · rw [← hT] at z
      have hlt := letR_lt z (by decide)
      have hn := hnb z
      rw [if_pos z] at hRe
      unfold blockR at hRe
      dsimp only at hRe
      rw [if_neg (by omega)] at hRe
      refine go (cut1 29) 30 21 _ _ _ _ _ ?_
      refine c_readNumber (pl := pl + 1) hS g2 hb2 rfl (by omega) (fun z => absurd g4 z) (fun f _ z => ?_) (fun v r _ z => ?_)
      · rw [← hT] at z
        rw [nuR_0 z] at hRe
        have hfn : ¬ f = 0 := by rcases numR_f z with rfl | rfl <;> decide
        exact wk _ _ _ _ _ _ _ (fl29 (upd (upd J 203 (nI (pl + 1))) 204 f) P B hfn (hf f (pl + 1) _ P B hRe g2 rfl rfl hfn q8)) (by repeat (first | exact ln | refine l0 ?_ | refine l1 rfl ?_))
      · rw [← hT] at z
        rw [nuR_1 z] at hRe
        have hz := numR_r z
        refine go (cut1 35) 30 29 _ _ _ _ _ ?_
        refine c_readSign (pl := r) hS g2 hb2 rfl (by omega) (fun z => absurd g4 z) (fun _ z => ?_) (fun _ z => ?_)
        · rw [← hT] at z
          rw [sgR_0 z] at hRe
          exact wk _ _ _ _ _ _ _ (fl35 (upd (upd (upd J 203 (nI (pl + 1))) 203 (nI r)) 204 1) P B (show ¬ (1 : Int32) = 0 by decide) (hf 1 r _ P B hRe g2 rfl rfl (by decide) q8)) (by repeat (first | exact ln | refine l0 ?_ | refine l1 rfl ?_))
        · rw [← hT] at z
          rw [sgR_1 z] at hRe
          have hlt2 := letR_lt z (by decide)
          have fin := hg _ (upd (upd (upd J 203 (nI (pl + 1))) 203 (nI r)) 203 (nI (r + 1))) (upd P 102 (nI (nb + 1))) (va_up B 105 (upd (B 105) nb v)) hRe ⟨⟨g2, hb2⟩, ⟨rfl, by show r + 1 ≤ Bn; omega⟩, g4, g5, ⟨rfl, by show nb + 1 ≤ 8; omega⟩, g7, g8, fun j hj => ?_, fun j hj => ?_, i7, i8, fun j hj => ?_, fun j hj => ?_⟩
          rotate_left
          · show va_up B 105 (upd (B 105) nb v) 105 j = upd ch nb v j
            rw [va_up_self]
            unfold upd
            rw [i5 j hj]
          · show va_up B 105 (upd (B 105) nb v) 106 j = upd on nb 0 j
            rw [va_up_ne _ _ (by decide), i6 j hj]
            unfold upd
            by_cases qq : j = nb
            · rw [if_pos qq, qq]
              exact (i9 nb (Nat.le_refl _)).2
            · rw [if_neg qq]
          · show upd ch nb v j = 0 ∧ upd on nb 0 j = 0
            have hj : nb + 1 ≤ j := hj
            unfold upd
            rw [if_neg (by omega), if_neg (by omega)]
            exact i9 j (by omega)
          · exact i10 j hj
          have g43 : upd (upd (upd J 203 (nI (pl + 1))) 203 (nI r)) 203 (nI (r + 1)) 204 = 0 := g4
          generalize upd (upd (upd J 203 (nI (pl + 1))) 203 (nI r)) 203 (nI (r + 1)) = J3 at *
          refine go (cut1 58) 60 35 _ _ _ _ _ ?_
          have ef : hfI (RU h (q + 1) p J3 P B) 204 (q + 1) = J3 204 := RU_q _
          refine And.intro (fun _ => ?_) (fun z => absurd (ef.trans g43) z)
          refine nz (by rw [e200]; exact hp0) (nz (by rw [e200]; exact hp0) ?_)
          refine rst (f := 105) hS (by decide) (by rw [e200]; rfl) (hS.2.2.1 105 (by decide)) (by omega) ((e102 _ _ _).trans g6) hn ?_
          refine go cut0 60 58 _ _ _ _ _ ?_
          refine nz (by rw [e200]; exact hp0) (nz (by rw [e200]; exact hp0) ?_)
          refine kkc fin rfl ?_
          rw [e102, g6, e200]
          show wfI _ 102 p (nI nb + 1) = _
          rw [nI_1]
          exact RU_wP hS _ _
  refine nz (by rw [e200]; exact hp0) ?_
  refine c_lookForRoom hS g2 hb2 g3 (by omega) (fun z => st15 (fun zl => ?_)) (fun _ z1 z2 => ?_)
  · apply Nat.lt_of_not_le
    intro zn
    refine z ⟨g4, by rw [← hT]; exact zl, ?_⟩
    rw [e102, g6]
    exact Int32.not_lt.mpr ((nI_leI (a := 8) (by omega) (by omega)).mpr zn)
  · rw [← hT] at z1
    rw [if_pos z1] at hRe
    rw [e102, g6] at z2
    have z3 := (nI_leI (a := 8) (by omega) (by omega)).mp (Int32.not_lt.mp z2)
    unfold blockR at hRe
    dsimp only at hRe
    rw [if_pos (by omega)] at hRe
    exact fl15 (upd J 204 3) P B (show ¬ (3 : Int32) = 0 by decide) (hf 3 pl _ P B hRe g2 g3 rfl (by decide) q8)
end R4
