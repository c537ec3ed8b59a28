/-! ===== the class: reading a castle ===== -/
def bk1 (T : Nat → Int32) (Bn : Nat) (S : PS) : (Int32 × Nat) ⊕ PS := if letR T Bn S.1 = 98 then blockR T Bn S else .inl (1, S.1)
def blkW (T : Nat → Int32) (Bn : Nat) : Nat → PS → (Int32 × Nat) ⊕ PS
  | 0, S => .inr S
  | k + 1, S => if letR T Bn S.1 = 98 then (match blockR T Bn S with | .inl e => .inl e | .inr S' => blkW T Bn k S') else .inr S
def rstW (T : Nat → Int32) (Bn : Nat) : Nat → PS → (Int32 × Nat) ⊕ PS
  | 0, S => .inr S
  | k + 1, S => if letR T Bn S.1 = 114 then (match restR T Bn S with | .inl e => .inl e | .inr S' => rstW T Bn k S') else .inr S
def clkW (T : Nat → Int32) (Bn : Nat) : Nat → PS → (Int32 × Nat) ⊕ PS
  | 0, S => .inr S
  | k + 1, S => if kindN (letR T Bn S.1) = 0 then .inr S else (match clerkR T Bn S with | .inl e => .inl e | .inr S' => clkW T Bn k S')
abbrev RR := (Int32 × Nat) ⊕ (Int32 × Int32 × PS)
def seR (R : (Int32 × Nat) ⊕ PS) (k : PS → RR) : RR := match R with | .inl e => .inl e | .inr S => k S
def endR (Bn : Nat) (v w : Int32) (S : PS) : RR := if S.1 < Bn then .inl (1, S.1) else .inr (v, w, S)
def clk5 (T : Nat → Int32) (Bn : Nat) (v w : Int32) (S : PS) : RR := seR (clkW T Bn 5 S) (endR Bn v w)
def rst13 (T : Nat → Int32) (Bn : Nat) (v w : Int32) (S : PS) : RR := seR (rstW T Bn 13 S) (clk5 T Bn v w)
def blk8 (T : Nat → Int32) (Bn : Nat) (v w : Int32) (S : PS) : RR := seR (blkW T Bn 8 S) (rst13 T Bn v w)
def claR (T : Nat → Int32) (Bn : Nat) : RR := match lawR T Bn with | .inl e => .inl e | .inr (v, w, q) => seR (bk1 T Bn (q, 0, 0, 0, zf, zf, zf, zf)) (blk8 T Bn v w)
section R7
variable {d q p t Bn : Nat} {h : hp} {J P : Nat → Int32} {B : Nat → Nat → Int32} {kk : Rt}
theorem c_lookForRoomF {sg th mo : Int32} (hf : ¬ J 204 = 0) (hk : kk none (RU h (q + 1) p J P B)) : CL (d + 1) mX2_lookForRoom 0 0 [.inr (.inr (3, q + 1)), .inl sg, .inl th, .inl mo] (RU h (q + 1) p J P B) kk := by
  refine mw T_X2_lookForRoom (fun Wm go => go (cut1 7) 40 0 _ _ _ _ _ ?_)
  have ef : hfI (RU h (q + 1) p J P B) 204 (q + 1) = J 204 := RU_q _
  exact And.intro (fun k1 => absurd (ef.symm.trans k1) hf) (fun _ => hk)
theorem c_readBlockF (hS : RS h (q + 1) p t) (hf : ¬ J 204 = 0) (hk : kk none (RU h (q + 1) p J P B)) : CL (d + 2) mX2_readBlock 0 0 [.inr (.inr (3, q + 1))] (RU h (q + 1) p J P B) kk := by
  have e200 : hfR (RU h (q + 1) p J P B) 200 (q + 1) = p := hS.1.2.2
  refine mw T_X2_readBlock (fun Wm go => go (cut1 42) 80 0 _ _ _ _ _ ?_)
  refine nz (by rw [e200]; exact hS.1.1) ?_
  refine c_lookForRoomF hf ?_
  refine c_readSignF hf ?_
  refine c_readNumberF hf ?_
  refine c_readSignF hf ?_
  have ef : hfI (RU h (q + 1) p J P B) 204 (q + 1) = J 204 := RU_q _
  exact And.intro (fun k1 => absurd (ef.symm.trans k1) hf) (fun _ => hk)
/-- a castle read, its layers settled -/
def RCe (Bn : Nat) (ra ru : Int32) (S : PS) (J P : Nat → Int32) (B : Nat → Nat → Int32) : Prop := ∃ B0, RC Bn ra ru S J P B0 ∧ (∀ f, f ≠ 107 → B f = B0 f) ∧ ∀ j, j < 8 → B 107 j = lyF (B 106) S.2.1 j
set_option maxRecDepth 20000 in
theorem c_readCastle (hS : RS h (q + 1) p t) (hb : J 202 = nI Bn) (hb2 : Bn ≤ 120) (hf : ∀ f r J P B, claR (haI h t) Bn = .inl (f, r) → J 202 = nI Bn → J 203 = nI r → J 204 = f → ¬ f = 0 → kk none (RU h (q + 1) p J P B))
    (hg : ∀ v w S J P B, claR (haI h t) Bn = .inr (v, w, S) → RCe Bn v w S J P B → kk none (RU h (q + 1) p J P B)) : CL (d + 3) mX2_readCastle 0 0 [.inr (.inr (3, q + 1))] (RU h (q + 1) p J P B) kk := by
  obtain ⟨T, hT⟩ : ∃ T : Nat → Int32, T = haI h t := ⟨_, rfl⟩
  rw [← hT] at hf hg
  have e200 : ∀ J P B, hfR (RU h (q + 1) p J P B) 200 (q + 1) = p := fun _ _ _ => hS.1.2.2
  refine mw3 T_X2_readCastle (fun Wm go wk => go (cut1 17) 60 0 _ _ _ _ _ ?_)
  refine nz (by rw [e200]; exact hS.1.1) ?_
  refine c_clear (e200 _ _ _) hS (fun P0 B0 hP0 hB0 => ?_)
  refine wmc (Wm := Wm) (L' := [some (.inr (.inr (3, q + 1))), none]) (h' := RU h (q + 1) p (upd (upd J 203 0) 204 0) P0 B0) ?_ rfl (by rw [RU_wJ, RU_wJ])
  have jb : upd (upd J 203 0) 204 0 202 = nI Bn := hb
  have j3 : upd (upd J 203 0) 204 0 203 = 0 := rfl
  have j4 : upd (upd J 203 0) 204 0 204 = 0 := rfl
  generalize upd (upd J 203 0) 204 0 = J0 at *
  have ef : ∀ J P B, hfI (RU h (q + 1) p J P B) 204 (q + 1) = J 204 := fun _ _ _ => RU_q _
  have st150 : ∀ J P B n, P 102 = nI n → n ≤ 8 → (∀ B', (∀ f, f ≠ 107 → B' f = B f) → ((∀ j, j < 8 → B 107 j = 0) → ∀ j, j < 8 → B' 107 j = lyF (B 106) n j) → kk none (RU h (q + 1) p J P B')) → Wm 150 [some (.inr (.inr (3, q + 1))), none] [] (RU h (q + 1) p J P B) 0 0 := by
    intro J P B n h2 n8 hk
    refine go cut0 30 150 _ _ _ _ _ ?_
    refine nz (by rw [e200]; exact hS.1.1) ?_
    exact c_settle (e200 _ _ _) hS h2 n8 hk
  have fl110 : ∀ J P B, ¬ J 204 = 0 → Q8 P → (∀ B, kk none (RU h (q + 1) p J P B)) → Wm 127 [some (.inr (.inr (3, q + 1))), none] [] (RU h (q + 1) p J P B) 0 0 := by
    intro J P B hn q8 hk
    refine go (cut2 134 150) 30 127 _ _ _ _ _ ?_
    refine And.intro (fun k1 => absurd ((ef _ _ _).symm.trans k1) hn) (fun _ => ?_)
    obtain ⟨n, n8, h2⟩ := q8
    exact st150 J P B n h2 n8 (fun B' _ _ => hk B')
  have fl78 : ∀ J P B i, ¬ J 204 = 0 → Q8 P → (∀ B, kk none (RU h (q + 1) p J P B)) → Wm 95 [some (.inr (.inr (3, q + 1))), some (.inl i)] [] (RU h (q + 1) p J P B) 0 0 := by
    intro J P B i hn q8 hk
    refine go (cut2 107 127) 30 95 _ _ _ _ _ ?_
    exact And.intro (fun _ => wk _ _ _ _ _ _ _ (fl110 J P B hn q8 hk) (by repeat (first | exact ln | refine l0 ?_ | refine l1 rfl ?_))) (fun _ => And.intro (fun k1 => absurd ((ef _ _ _).symm.trans k1) hn) (fun _ => wk _ _ _ _ _ _ _ (fl110 J P B hn q8 hk) (by repeat (first | exact ln | refine l0 ?_ | refine l1 rfl ?_))))
  have fl76 : ∀ J P B, ¬ J 204 = 0 → Q8 P → (∀ B, kk none (RU h (q + 1) p J P B)) → Wm 93 [some (.inr (.inr (3, q + 1))), none] [] (RU h (q + 1) p J P B) 0 0 := by
    intro J P B hn q8 hk
    refine go (cut1 95) 30 93 _ _ _ _ _ ?_
    exact fl78 J P B 0 hn q8 hk
  have fl44 : ∀ J P B i, ¬ J 204 = 0 → Q8 P → (∀ B, kk none (RU h (q + 1) p J P B)) → Wm 61 [some (.inr (.inr (3, q + 1))), some (.inl i)] [] (RU h (q + 1) p J P B) 0 0 := by
    intro J P B i hn q8 hk
    refine go (cut2 74 93) 30 61 _ _ _ _ _ ?_
    exact And.intro (fun _ => wk _ _ _ _ _ _ _ (fl76 J P B hn q8 hk) (by repeat (first | exact ln | refine l0 ?_ | refine l1 rfl ?_))) (fun _ => And.intro (fun k1 => absurd ((ef _ _ _).symm.trans k1) hn) (fun _ => wk _ _ _ _ _ _ _ (fl76 J P B hn q8 hk) (by repeat (first | exact ln | refine l0 ?_ | refine l1 rfl ?_))))
  have fl42 : ∀ J P B, ¬ J 204 = 0 → Q8 P → (∀ B, kk none (RU h (q + 1) p J P B)) → Wm 59 [some (.inr (.inr (3, q + 1))), none] [] (RU h (q + 1) p J P B) 0 0 := by
    intro J P B hn q8 hk
    refine go (cut1 61) 30 59 _ _ _ _ _ ?_
    exact fl44 J P B 0 hn q8 hk
  have fl10 : ∀ J P B i, ¬ J 204 = 0 → Q8 P → (∀ B, kk none (RU h (q + 1) p J P B)) → Wm 27 [some (.inr (.inr (3, q + 1))), some (.inl i)] [] (RU h (q + 1) p J P B) 0 0 := by
    intro J P B i hn q8 hk
    refine go (cut2 40 59) 30 27 _ _ _ _ _ ?_
    exact And.intro (fun _ => wk _ _ _ _ _ _ _ (fl42 J P B hn q8 hk) (by repeat (first | exact ln | refine l0 ?_ | refine l1 rfl ?_))) (fun _ => And.intro (fun k1 => absurd ((ef _ _ _).symm.trans k1) hn) (fun _ => wk _ _ _ _ _ _ _ (fl42 J P B hn q8 hk) (by repeat (first | exact ln | refine l0 ?_ | refine l1 rfl ?_))))
  have st110 : ∀ v w S J P B, RC Bn v w S J P B → claR T Bn = endR Bn v w S → Wm 127 [some (.inr (.inr (3, q + 1))), none] [] (RU h (q + 1) p J P B) 0 0 := by
    intro v w S J P B hR he
    have hR' := hR
    obtain ⟨⟨g2, -⟩, ⟨g3, hpl⟩, g4, -, ⟨g6, nb8⟩, -, -, -, -, -, -, -, i10⟩ := hR
    have eb : hfI (RU h (q + 1) p J P B) 202 (q + 1) = nI Bn := (RU_q _).trans g2
    have epl : hfI (RU h (q + 1) p J P B) 203 (q + 1) = nI S.1 := (RU_q _).trans g3
    unfold endR at he
    refine go (cut1 150) 40 127 _ _ _ _ _ ?_
    refine And.intro (fun _ => ?_) (fun z => absurd ((ef _ _ _).trans g4) z)
    refine icg epl eb (by omega) (by omega) (fun c => ?_) (fun c => ?_)
    · rw [if_neg (by omega)] at he
      refine st150 J P B S.2.1 g6 nb8 (fun B' q1 q2 => ?_)
      refine hg v w S J P B' he ⟨B, hR', q1, ?_⟩
      rw [q1 106 (by decide)]
      exact q2 i10
    · rw [if_pos c] at he
      refine wmc (Wm := Wm) (h' := RU h (q + 1) p (upd J 204 1) P B) ?_ rfl (RU_wJ _ _)
      exact st150 (upd J 204 1) P B S.2.1 g6 nb8 (fun B' _ _ => hf 1 S.1 (upd J 204 1) P B' he g2 g3 rfl (by decide))
  have st78 : ∀ v w k, k ≤ 5 → ∀ S J P B, RC Bn v w S J P B → claR T Bn = seR (clkW T Bn (5 - k) S) (endR Bn v w) → Wm 95 [some (.inr (.inr (3, q + 1))), some (.inl (nI k))] [] (RU h (q + 1) p J P B) 0 0 := by
    intro v w
    refine upto (n := 5) (fun k hk ih S J P B hR he => ?_)
    have hR' := hR
    obtain ⟨⟨g2, -⟩, ⟨g3, hpl⟩, g4, -⟩ := hR
    refine go (cut2 121 127) 40 95 _ _ _ _ _ ?_
    refine And.intro (fun z => ?_) (fun z => ?_)
    · have z : nI 4 < nI k := z
      have z : 4 < k := Nat.not_le.mp (fun y => Int32.not_lt.mpr ((nI_leI (by omega) (by omega)).mpr y) z)
      have e5 : k = 5 := by omega
      subst e5
      exact wk _ _ _ _ _ _ _ (st110 v w S J P B hR' he) (by repeat (first | exact ln | refine l0 ?_ | refine l1 rfl ?_))
    · have z : ¬ nI 4 < nI k := z
      have z : k ≤ 4 := (nI_leI (by omega) (by omega)).mp (Int32.not_lt.mp z)
      have ih := ih (by omega)
      rw [show 5 - k = (5 - (k + 1)) + 1 by omega] at he
      refine And.intro (fun _ => ?_) (fun z => absurd ((ef _ _ _).trans g4) z)
      refine c_letter hS g2 hb2 g3 (by omega) ?_
      refine c_kindOf ?_
      rw [← hT]
      refine And.intro (fun z => ?_) (fun z => ?_)
      · have z : kindN (letR T Bn S.1) = 0 := z
        have e : clkW T Bn (5 - (k + 1) + 1) S = .inr S := if_pos z
        rw [e] at he
        exact wk _ _ _ _ _ _ _ (st110 v w S J P B hR' he) (by repeat (first | exact ln | refine l0 ?_ | refine l1 rfl ?_))
      · have z : ¬ kindN (letR T Bn S.1) = 0 := z
        have e : clkW T Bn (5 - (k + 1) + 1) S = (match clerkR T Bn S with | .inl e => .inl e | .inr S' => clkW T Bn (5 - (k + 1)) S') := if_neg z
        rw [e] at he
        obtain ⟨pl, nb, nr, nc, ch, on, ki, ha⟩ := S
        refine c_readClerk hS hR' (clerkR T Bn (pl, nb, nr, nc, ch, on, ki, ha)) (by rw [hT]) (by rw [← hT]; exact z) (fun f r J' P' B' x1 x2 x3 x4 x5 x6 => ?_) (fun S' J' P' B' x1 x2 => ?_)
        · rw [x1] at he
          refine go (cut1 95) 20 121 _ _ _ _ _ ?_
          exact fl78 J' P' B' _ (by rw [x4]; exact x5) x6 (fun B => hf f r J' P' B he x2 x3 x4 x5)
        · rw [x1] at he
          have e := ih S' J' P' B' x2 he
          rw [← nI_1] at e
          exact go (cut1 95) 20 121 _ _ _ _ _ e
  have st44 : ∀ v w k, k ≤ 13 → ∀ S J P B, RC Bn v w S J P B → claR T Bn = seR (rstW T Bn (13 - k) S) (clk5 T Bn v w) → Wm 61 [some (.inr (.inr (3, q + 1))), some (.inl (nI k))] [] (RU h (q + 1) p J P B) 0 0 := by
    intro v w
    refine upto (n := 13) (fun k hk ih S J P B hR he => ?_)
    have hR' := hR
    obtain ⟨⟨g2, -⟩, ⟨g3, hpl⟩, g4, -⟩ := hR
    have nx : claR T Bn = clk5 T Bn v w S → Wm 93 [some (.inr (.inr (3, q + 1))), none] [] (RU h (q + 1) p J P B) 0 0 := by
      intro he
      refine go (cut1 95) 30 93 _ _ _ _ _ ?_
      exact st78 v w 0 (by omega) S J P B hR' he
    refine go (cut2 87 93) 40 61 _ _ _ _ _ ?_
    refine And.intro (fun z => ?_) (fun z => ?_)
    · have z : nI 12 < nI k := z
      have z : 12 < k := Nat.not_le.mp (fun y => Int32.not_lt.mpr ((nI_leI (by omega) (by omega)).mpr y) z)
      have e5 : k = 13 := by omega
      subst e5
      exact wk _ _ _ _ _ _ _ (nx he) (by repeat (first | exact ln | refine l0 ?_ | refine l1 rfl ?_))
    · have z : ¬ nI 12 < nI k := z
      have z : k ≤ 12 := (nI_leI (by omega) (by omega)).mp (Int32.not_lt.mp z)
      have ih := ih (by omega)
      rw [show 13 - k = (13 - (k + 1)) + 1 by omega] at he
      refine And.intro (fun _ => ?_) (fun z => absurd ((ef _ _ _).trans g4) z)
      refine c_letter hS g2 hb2 g3 (by omega) ?_
      rw [← hT]
      refine And.intro (fun z => ?_) (fun z => ?_)
      · have z : letR T Bn S.1 = 114 := z
        have e : rstW T Bn (13 - (k + 1) + 1) S = (match restR T Bn S with | .inl e => .inl e | .inr S' => rstW T Bn (13 - (k + 1)) S') := if_pos z
        rw [e] at he
        obtain ⟨pl, nb, nr, nc, ch, on, ki, ha⟩ := S
        refine c_readRest hS hR' (restR T Bn (pl, nb, nr, nc, ch, on, ki, ha)) (by rw [hT]) (by rw [← hT]; exact z) (fun f r J' P' B' x1 x2 x3 x4 x5 x6 => ?_) (fun S' J' P' B' x1 x2 => ?_)
        · rw [x1] at he
          refine go (cut1 61) 20 87 _ _ _ _ _ ?_
          exact fl44 J' P' B' _ (by rw [x4]; exact x5) x6 (fun B => hf f r J' P' B he x2 x3 x4 x5)
        · rw [x1] at he
          have e := ih S' J' P' B' x2 he
          rw [← nI_1] at e
          exact go (cut1 61) 20 87 _ _ _ _ _ e
      · have z : ¬ letR T Bn S.1 = 114 := z
        have e : rstW T Bn (13 - (k + 1) + 1) S = .inr S := if_neg z
        rw [e] at he
        exact wk _ _ _ _ _ _ _ (nx he) (by repeat (first | exact ln | refine l0 ?_ | refine l1 rfl ?_))
  have st10 : ∀ v w k, k ≤ 8 → ∀ S J P B, RC Bn v w S J P B → claR T Bn = seR (blkW T Bn (8 - k) S) (rst13 T Bn v w) → Wm 27 [some (.inr (.inr (3, q + 1))), some (.inl (nI (k + 1)))] [] (RU h (q + 1) p J P B) 0 0 := by
    intro v w
    refine upto (n := 8) (fun k hk ih S J P B hR he => ?_)
    have hR' := hR
    obtain ⟨⟨g2, -⟩, ⟨g3, hpl⟩, g4, -⟩ := hR
    have nx : claR T Bn = rst13 T Bn v w S → Wm 59 [some (.inr (.inr (3, q + 1))), none] [] (RU h (q + 1) p J P B) 0 0 := by
      intro he
      refine go (cut1 61) 30 59 _ _ _ _ _ ?_
      exact st44 v w 0 (by omega) S J P B hR' he
    refine go (cut2 53 59) 40 27 _ _ _ _ _ ?_
    refine And.intro (fun z => ?_) (fun z => ?_)
    · have z : nI 8 < nI (k + 1) := z
      have z : 8 < k + 1 := Nat.not_le.mp (fun y => Int32.not_lt.mpr ((nI_leI (by omega) (by omega)).mpr y) z)
      have e5 : k = 8 := by omega
      subst e5
      exact wk _ _ _ _ _ _ _ (nx he) (by repeat (first | exact ln | refine l0 ?_ | refine l1 rfl ?_))
    · have z : ¬ nI 8 < nI (k + 1) := z
      have z : k + 1 ≤ 8 := (nI_leI (by omega) (by omega)).mp (Int32.not_lt.mp z)
      have ih := ih (by omega)
      rw [show 8 - k = (8 - (k + 1)) + 1 by omega] at he
      refine And.intro (fun _ => ?_) (fun z => absurd ((ef _ _ _).trans g4) z)
      refine c_letter hS g2 hb2 g3 (by omega) ?_
      rw [← hT]
      refine And.intro (fun z => ?_) (fun z => ?_)
      · have z : letR T Bn S.1 = 98 := z
        have e : blkW T Bn (8 - (k + 1) + 1) S = (match blockR T Bn S with | .inl e => .inl e | .inr S' => blkW T Bn (8 - (k + 1)) S') := if_pos z
        rw [e] at he
        obtain ⟨pl, nb, nr, nc, ch, on, ki, ha⟩ := S
        refine c_readBlock hS hR' (blockR T Bn (pl, nb, nr, nc, ch, on, ki, ha)) (by rw [← hT]; exact (if_pos z).symm) (fun f r J' P' B' x1 x2 x3 x4 x5 x6 => ?_) (fun S' J' P' B' x1 x2 => ?_)
        · rw [x1] at he
          refine go (cut1 27) 20 53 _ _ _ _ _ ?_
          exact fl10 J' P' B' _ (by rw [x4]; exact x5) x6 (fun B => hf f r J' P' B he x2 x3 x4 x5)
        · rw [x1] at he
          have e := ih S' J' P' B' x2 he
          rw [← nI_1 (k + 1)] at e
          exact go (cut1 27) 20 53 _ _ _ _ _ e
      · have z : ¬ letR T Bn S.1 = 98 := z
        have e : blkW T Bn (8 - (k + 1) + 1) S = .inr S := if_neg z
        rw [e] at he
        exact wk _ _ _ _ _ _ _ (nx he) (by repeat (first | exact ln | refine l0 ?_ | refine l1 rfl ?_))
  have fl4 : ∀ J P B, ¬ J 204 = 0 → Q8 P → (∀ B, kk none (RU h (q + 1) p J P B)) → Wm 25 [some (.inr (.inr (3, q + 1))), none] [] (RU h (q + 1) p J P B) 0 0 := by
    intro J P B hn q8 hk
    refine go (cut1 27) 30 25 _ _ _ _ _ ?_
    exact fl10 J P B 1 hn q8 hk
  refine go (cut1 21) 40 17 _ _ _ _ _ ?_
  refine c_readLaw hS jb hb2 j3 j4 hP0 hB0 (fun f r J' P' B' x1 x2 x3 x4 x5 x6 => ?_) (fun v w r J' P' B' x1 x2 => ?_)
  · rw [← hT] at x1
    have he : claR T Bn = .inl (f, r) := by
      unfold claR
      rw [x1]
    refine go (cut1 25) 30 21 _ _ _ _ _ ?_
    refine c_readBlockF hS (by rw [x4]; exact x5) ?_
    exact fl4 J' P' B' (by rw [x4]; exact x5) x6 (fun B => hf f r J' P' B he x2 x3 x4 x5)
  · rw [← hT] at x1
    have he : claR T Bn = seR (bk1 T Bn (r, 0, 0, 0, zf, zf, zf, zf)) (blk8 T Bn v w) := by
      unfold claR
      rw [x1]
    refine go (cut1 25) 30 21 _ _ _ _ _ ?_
    refine c_readBlock hS x2 (bk1 T Bn (r, 0, 0, 0, zf, zf, zf, zf)) (by rw [← hT]; rfl) (fun f r' J' P' B' y1 y2 y3 y4 y5 y6 => ?_) (fun S' J' P' B' y1 y2 => ?_)
    · rw [y1] at he
      exact fl4 J' P' B' (by rw [y4]; exact y5) y6 (fun B => hf f r' J' P' B he y2 y3 y4 y5)
    · rw [y1] at he
      refine go (cut1 27) 30 25 _ _ _ _ _ ?_
      exact st10 v w 0 (by omega) S' J' P' B' y2 he
end R7
