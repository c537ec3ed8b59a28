/-! ===== the reference: the fewest that fall, must, layers, the longest line ===== -/
theorem nI_toNat (v : Int32) : nI v.toBitVec.toNat = v := by
  apply Int32.toBitVec_inj.mp
  show BitVec.ofNat 32 v.toBitVec.toNat = v.toBitVec
  simp
theorem and_le {a : Nat} (ha : a < 2 ^ 31) (y : Int32) : ∃ m, m ≤ a ∧ nI a &&& y = nI m := by
  refine ⟨(nI a &&& y).toBitVec.toNat, ?_, (nI_toNat _).symm⟩
  rw [Int32.toBitVec_and, BitVec.toNat_and, pk_tn (by omega)]
  exact Nat.and_le_left
theorem or_lt {a k : Nat} (ha : a < 2 ^ k) (hk : k < 8) : nI a ||| (1 <<< (nI k &&& 31)) = nI (a ||| 2 ^ k) := by
  rw [shl_n k (by omega)]
  apply Int32.toBitVec_inj.mp
  rw [Int32.toBitVec_or]
  show BitVec.ofNat 32 a ||| BitVec.ofNat 32 (2 ^ k) = BitVec.ofNat 32 (a ||| 2 ^ k)
  exact (BitVec.ofNat_or ..).symm
theorem or_z (v : Int32) : v ||| 0 = v := by
  apply Int32.toBitVec_inj.mp
  rw [Int32.toBitVec_or]
  show v.toBitVec ||| 0#32 = _
  simp
theorem stP_in {on : Nat → Int32} {p : Nat → Bool} : ∀ {n : Nat}, n ≤ 8 → ∃ m, m < 2 ^ n ∧ stP on p n = nI m
  | 0, _ => ⟨0, by decide, rfl⟩
  | n + 1, h => by
    obtain ⟨m, hm, e⟩ := stP_in (on := on) (p := p) (n := n) (by omega)
    have hp : 2 ^ (n + 1) = 2 ^ n * 2 := Nat.pow_succ 2 n
    by_cases c : p n = true ∧ (on n = 0 ∨ ¬ on n &&& stP on p n = 0)
    · refine ⟨m ||| 2 ^ n, Nat.or_lt_two_pow (by omega) (by omega), ?_⟩
      rw [stP_1 c, e, or_lt hm (by omega)]
    · exact ⟨m, by omega, by rw [stP_0 c, or_z]; exact e⟩
theorem mkS_in {q : Nat → Bool} : ∀ {n : Nat}, n ≤ 8 → ∃ m, m < 2 ^ n ∧ mkS q n = nI m
  | 0, _ => ⟨0, by decide, rfl⟩
  | n + 1, h => by
    obtain ⟨m, hm, e⟩ := mkS_in (q := q) (n := n) (by omega)
    have hp : 2 ^ (n + 1) = 2 ^ n * 2 := Nat.pow_succ 2 n
    by_cases c : q n = true
    · refine ⟨m ||| 2 ^ n, Nat.or_lt_two_pow (by omega) (by omega), ?_⟩
      rw [mkS_1 c, e, or_lt hm (by omega)]
    · exact ⟨m, by omega, by rw [mkS_0 c, or_z]; exact e⟩
theorem p256 {n : Nat} (h : n ≤ 8) : 2 ^ n ≤ 256 := Nat.pow_le_pow_right (by omega) h
def bitsI (v : Int32) : Int32 := nI (pc8 v.toNatClampNeg)
theorem m_bitsI {d : Nat} {h : hp} {v : Int32} {kk : Rt} (hv : ∃ m, m < 256 ∧ v = nI m) (hk : kk (some (.inl (bitsI v))) h) : CL d mX7_bits 0 0 [.inl v] h kk := by
  obtain ⟨m, hm, rfl⟩ := hv
  exact m_bits hm (kki hk (by unfold bitsI; rw [nI_clamp (by omega)]) rfl)
theorem in_and {n : Nat} (hn : n ≤ 8) {on : Nat → Int32} {p : Nat → Bool} (y : Int32) : ∃ m, m < 256 ∧ stP on p n &&& y = nI m := by
  obtain ⟨m, hm, e⟩ := stP_in (on := on) (p := p) hn
  have := p256 hn
  obtain ⟨q, hq, e2⟩ := and_le (a := m) (by omega) y
  exact ⟨q, by omega, by rw [e]; exact e2⟩
theorem in_st {n : Nat} (hn : n ≤ 8) (on : Nat → Int32) (p : Nat → Bool) : ∃ m, m < 256 ∧ stP on p n = nI m := by
  obtain ⟨m, hm, e⟩ := stP_in (on := on) (p := p) hn
  have := p256 hn
  exact ⟨m, by omega, e⟩
def lfS (ok : Nat → Bool) (cost : Nat → Int32) : Nat → Int32 × Int32
  | 0 => (eNONE, 9)
  | k + 1 => if ok k = true ∧ cost k < (lfS ok cost k).2 then (nI k, cost k) else lfS ok cost k
theorem lfS_1 {ok : Nat → Bool} {cost : Nat → Int32} {k : Nat} (h : ok k = true ∧ cost k < (lfS ok cost k).2) : lfS ok cost (k + 1) = (nI k, cost k) := by
  show (if _ then _ else _) = _
  rw [if_pos h]
theorem lfS_0 {ok : Nat → Bool} {cost : Nat → Int32} {k : Nat} (h : ¬ (ok k = true ∧ cost k < (lfS ok cost k).2)) : lfS ok cost (k + 1) = lfS ok cost k := by
  show (if _ then _ else _) = _
  rw [if_neg h]
abbrev flF (A : Nat → Nat → Int32) (n k : Nat) : Int32 := stN A n &&& (stW A n (nI k) ^^^ (-1))
abbrev lfOk (A : Nat → Nat → Int32) (n : Nat) (many bs : Int32) (k : Nat) : Bool := decide (nI k &&& (stN A n ^^^ (-1)) = 0 ∧ flF A n k &&& bs = 0 ∧ ¬ smI (cbF A (stW A n (nI k))) n < many)
abbrev lfC (A : Nat → Nat → Int32) (n k : Nat) : Int32 := bitsI (flF A n k)
abbrev lfX (A : Nat → Nat → Int32) (n : Nat) (many bs : Int32) (k : Nat) : Int32 × Int32 := lfS (lfOk A n many bs) (lfC A n) k
section M6
variable {d x n cm at' am by' tm : Nat} {h : hp} {I : Nat → Int32} {A : Nat → Nat → Int32} {kk : Rt}
theorem m_leastFallen {many bs wh : Int32} (hS : MSh h (x + 1)) (hI : MIn I n cm at' am by' tm) (hs : n = 0 → kk (some (.inl eSTATE)) (MU h (x + 1) I A)) (hb : 0 < n → ¬ (inR many 0 240 ∧ inB bs (2 ^ n) ∧ inR wh 0 1) → kk (some (.inl eBAD)) (MU h (x + 1) I A))
    (hg : ∀ A', 0 < n → inR many 0 240 → inB bs (2 ^ n) → inR wh 0 1 → EA A A' → kk (some (.inl (if (lfX A n many bs (2 ^ n)).1 = eNONE then eNONE else if wh = 0 then (lfX A n many bs (2 ^ n)).2 else (lfX A n many bs (2 ^ n)).1))) (MU h (x + 1) I A')) : CL (d + 2) mX7_leastFallen 0 0 [.inr (.inr (8, x + 1)), .inl many, .inl bs, .inl wh] (MU h (x + 1) I A) kk := by
  obtain ⟨⟨hn, hn8⟩, -⟩ := hI
  have h256 := p256 hn8
  refine mw3 T_X7_leastFallen (fun Wm go wk => go (cut1 62) 80 0 _ _ _ _ _ ?_)
  refine n0 ((MU_fI _ _ _ _ _).trans hn) hn8 (fun c => hs c) (fun c => ?_)
  refine m_in (fun c1 => br1 ?_) (fun c1 => br0 (hb c (fun z => c1 z.1)))
  refine m_isBlocks hn hn8 (fun c2 => br1 ?_) (fun c2 => br0 (hb c (fun z => c2 z.2.1)))
  refine m_in (fun c3 => br1 ?_) (fun c3 => br0 (hb c (fun z => c3 z.2.2)))
  refine m_standing (f := 715) (MU_e _ _ _ _ _ _) hS hn hn8 (Or.inl rfl) ?_
  refine upto (n := 2 ^ n) (P := fun k => ∀ A', EA A A' → Wm 62 [some (.inr (.inr (8, x + 1))), some (.inl many), some (.inl bs), some (.inl wh), some (.inl (stN A n)), some (.inl (lfX A n many bs k).1), some (.inl (lfX A n many bs k).2), some (.inl (nI k)), none, none] [] (MU h (x + 1) I A') 0 0) (fun k hkn ih A' hE => ?_) 0 (Nat.zero_le _) A (EA.rf A)
  refine go (cut1 62) 90 62 _ _ _ _ _ ?_
  have e1 : (1 : Int32) <<< (hfI (MU h (x + 1) I A') 707 (x + 1) &&& 31) = nI (2 ^ n) := by rw [MU_fI, hn, shl_n n hn8]
  have eA : stW A' n (nI k) = stW A n (nI k) := by
    show stP (A' 712) (fun j => posB (A' 715) j && _) n = _
    rw [hE 712 (by decide) (by decide), hE 715 (by decide) (by decide)]
  refine icg rfl e1 (by omega) (by omega) (fun z => ?_) (fun z => ?_)
  · have e : k = 2 ^ n := by omega
    subst e
    have q := hg A' c c1 c2 c3 hE
    refine And.intro (fun w => ?_) (fun w => And.intro (fun w2 => ?_) (fun w2 => ?_))
    · rw [if_pos w] at q; exact q
    · rw [if_neg w, if_pos w2] at q; exact q
    · rw [if_neg w, if_neg w2] at q; exact q
  · have skip : (¬ (lfOk A n many bs k = true ∧ lfC A n k < (lfX A n many bs k).2)) → ∀ A', EA A A' → Wm 62 [some (.inr (.inr (8, x + 1))), some (.inl many), some (.inl bs), some (.inl wh), some (.inl (stN A n)), some (.inl (lfX A n many bs k).1), some (.inl (lfX A n many bs k).2), some (.inl (nI k + 1)), none, none] [] (MU h (x + 1) I A') 0 0 := fun hno A' hE => by
      have e := ih z A' hE
      rw [show lfX A n many bs (k + 1) = lfX A n many bs k from lfS_0 hno, ← nI_1] at e
      exact e
    refine And.intro (fun c5 => ?_) (fun c5 => ?_)
    · refine m_standingWithout hS hn hn8 (fun A2 hE2 => ?_)
      have hE3 := hE.tr hE2
      rw [eA]
      refine And.intro (fun _ => ?_) (fun w => absurd c5 w)
      refine And.intro (fun c6 => ?_) (fun c6 => ?_)
      · refine m_bitsI (in_and hn8 _) ?_
        refine And.intro (fun c7 => ?_) (fun c7 => ?_)
        · exact wk _ _ _ _ _ _ _ (skip (fun w => absurd w.2 (Int32.not_lt.mpr c7)) A2 hE3) (by repeat (first | exact ln | refine l0 ?_ | refine l1 rfl ?_))
        · refine m_chalkBut hS hn hn8 ?_
          have eC : smI (cbF A2 (stW A n (nI k))) n = smI (cbF A (stW A n (nI k))) n := by
            unfold cbF
            rw [hE3 715 (by decide) (by decide)]
          rw [eC]
          refine And.intro (fun c8 => ?_) (fun c8 => ?_)
          · exact wk _ _ _ _ _ _ _ (skip (fun w => (of_decide_eq_true w.1).2.2 c8) A2 hE3) (by repeat (first | exact ln | refine l0 ?_ | refine l1 rfl ?_))
          · refine m_bitsI (in_and hn8 _) ?_
            have e := ih z A2 hE3
            rw [show lfX A n many bs (k + 1) = (nI k, lfC A n k) from lfS_1 ⟨decide_eq_true ⟨c5, c6, c8⟩, Int32.not_le.mp c7⟩, ← nI_1] at e
            exact wk _ _ _ _ _ _ _ e (by repeat (first | exact ln | refine l0 ?_ | refine l1 rfl ?_))
      · exact wk _ _ _ _ _ _ _ (skip (fun w => c6 (of_decide_eq_true w.1).2.1) A2 hE3) (by repeat (first | exact ln | refine l0 ?_ | refine l1 rfl ?_))
    · refine And.intro (fun w => absurd w c5) (fun _ => ?_)
      exact wk _ _ _ _ _ _ _ (skip (fun w => c5 (of_decide_eq_true w.1).1) A' hE) (by repeat (first | exact ln | refine l0 ?_ | refine l1 rfl ?_))
abbrev muF (A : Nat → Nat → Int32) (n k : Nat) : Bool := decide (hasB (stN A n) (nI k)) && decide (bitsI (stN A n) < (2 : Int32) * bitsI (stN A n &&& (stW A n (1 <<< (nI k &&& 31)) ^^^ (-1))))
theorem m_must (hS : MSh h (x + 1)) (hI : MIn I n cm at' am by' tm) (hs : n = 0 → kk (some (.inl eSTATE)) (MU h (x + 1) I A))
    (hg : ∀ A', 0 < n → EA A A' → kk (some (.inl (mkS (muF A n) n))) (MU h (x + 1) I A')) : CL (d + 2) mX7_must 0 0 [.inr (.inr (8, x + 1))] (MU h (x + 1) I A) kk := by
  obtain ⟨⟨hn, hn8⟩, -⟩ := hI
  refine mw3 T_X7_must (fun Wm go wk => go (cut1 23) 80 0 _ _ _ _ _ ?_)
  refine n0 ((MU_fI _ _ _ _ _).trans hn) hn8 (fun c => hs c) (fun c => ?_)
  refine m_standing (f := 715) (MU_e _ _ _ _ _ _) hS hn hn8 (Or.inl rfl) ?_
  refine upto (n := n) (P := fun k => ∀ A', EA A A' → Wm 23 [some (.inr (.inr (8, x + 1))), some (.inl (stN A n)), some (.inl (mkS (muF A n) k)), some (.inl (nI k)), none] [] (MU h (x + 1) I A') 0 0) (fun k hkn ih A' hE => ?_) 0 (Nat.zero_le _) A (EA.rf A)
  refine go (cut1 23) 90 23 _ _ _ _ _ ?_
  refine icg rfl ((MU_fI _ _ _ _ _).trans hn) (by omega) (by omega) (fun z => ?_) (fun z => ?_)
  · have e : k = n := by omega
    subst e
    exact hg A' c hE
  · refine m_has (fun c3 => br1 ?_) (fun c3 => br0 ?_)
    · refine m_standingWithout hS hn hn8 (fun A2 hE2 => ?_)
      have hE3 := hE.tr hE2
      have eA : stW A' n (1 <<< (nI k &&& 31)) = stW A n (1 <<< (nI k &&& 31)) := by
        show stP (A' 712) (fun j => posB (A' 715) j && _) n = _
        rw [hE 712 (by decide) (by decide), hE 715 (by decide) (by decide)]
      have eA : stW A' n ((fun a b : Int32 => a <<< (b &&& 31)) 1 (nI k)) = stW A n (1 <<< (nI k &&& 31)) := eA
      rw [eA]
      refine m_bitsI (in_and hn8 _) ?_
      refine m_bitsI (in_st hn8 _ _) ?_
      refine And.intro (fun c7 => br0 ?_) (fun c7 => br1 ?_)
      · have e := ih z A2 hE3
        rw [mkS_0 (by
          intro w
          have w := (Bool.and_eq_true_iff.mp w).2
          exact absurd (of_decide_eq_true w) (Int32.not_lt.mpr c7)), ← nI_1] at e
        exact wk _ _ _ _ _ _ _ e (by repeat (first | exact ln | refine l0 ?_ | refine l1 rfl ?_))
      · have e := ih z A2 hE3
        rw [mkS_1 (Bool.and_eq_true_iff.mpr ⟨decide_eq_true c3, decide_eq_true (Int32.not_le.mp c7)⟩), ← nI_1] at e
        exact wk _ _ _ _ _ _ _ e (by repeat (first | exact ln | refine l0 ?_ | refine l1 rfl ?_))
    · refine br0 ?_
      have e := ih z A' hE
      rw [mkS_0 (by
          intro w
          exact c3 (of_decide_eq_true (Bool.and_eq_true_iff.mp w).1)), ← nI_1] at e
      exact wk _ _ _ _ _ _ _ e (by repeat (first | exact ln | refine l0 ?_ | refine l1 rfl ?_))
/-- layers -/
def hiF (onx : Int32) (L : Nat → Int32) : Nat → Int32
  | 0 => -1
  | y + 1 => if hasB onx (nI y) ∧ hiF onx L y < L y then L y else hiF onx L y
def layF (on : Nat → Int32) (L0 : Nat → Int32) : Nat → (Nat → Int32)
  | 0 => L0
  | k + 1 => upd (layF on L0 k) k (hiF (on k) (layF on L0 k) k + 1)
theorem m_layer {bl : Int32} (hS : MSh h (x + 1)) (hI : MIn I n cm at' am by' tm) (hb : ¬ inB bl n → kk (some (.inl eBAD)) (MU h (x + 1) I A))
    (hg : ∀ b, b < n → bl = nI b → kk (some (.inl (layF (A 712) (A 730) (b + 1) b))) (MU h (x + 1) I (va_up A 730 (layF (A 712) (A 730) (b + 1))))) : CL (d + 2) mX7_layer 0 0 [.inr (.inr (8, x + 1)), .inl bl] (MU h (x + 1) I A) kk := by
  obtain ⟨⟨hn, hn8⟩, -⟩ := hI
  refine mw3 T_X7_layer (fun Wm go wk => go (cut1 13) 80 0 _ _ _ _ _ ?_)
  refine m_isBlock hn hn8 (fun c1 => br1 ?_) (fun c1 => br0 (hb c1))
  obtain ⟨b, hbb, rfl⟩ := inB_of c1 (by omega)
  have start := upto (n := b + 1) (P := fun k => Wm 13 [some (.inr (.inr (8, x + 1))), some (.inl (nI b)), some (.inl (nI k)), none, none] [] (MU h (x + 1) I (va_up A 730 (layF (A 712) (A 730) k))) 0 0) (fun k hkn ih => ?_) 0 (Nat.zero_le _)
  · rw [show layF (A 712) (A 730) 0 = A 730 from rfl, up_id] at start
    exact start
  refine go (cut2 13 23) 90 13 _ _ _ _ _ ?_
  refine And.intro (fun z => ?_) (fun z => ?_)
  · have zz := (nI_ltI (by omega) (by omega)).mp (show nI b < nI k from z)
    have e : k = b + 1 := by omega
    subst e
    exact mldk (f := 730) hS (by decide) b rfl (by show b < 8; omega) (hg b hbb rfl)
  · have zz : ¬ b < k := fun q => z ((nI_ltI (by omega) (by omega)).mpr q)
    refine upto (n := k) (P := fun y => Wm 23 [some (.inr (.inr (8, x + 1))), some (.inl (nI b)), some (.inl (nI k)), some (.inl (hiF (A 712 k) (layF (A 712) (A 730) k) y)), some (.inl (nI y))] [] (MU h (x + 1) I (va_up A 730 (layF (A 712) (A 730) k))) 0 0) (fun y hyk ih2 => ?_) 0 (Nat.zero_le _)
    refine go (cut2 13 23) 90 23 _ _ _ _ _ ?_
    refine icg rfl rfl (by omega) (by omega) (fun w => ?_) (fun w => ?_)
    · have e : y = k := by omega
      subst e
      refine mstk (f := 730) hS (by decide) y rfl (by show y < 8; omega) ?_
      have e := ih (by omega)
      rw [show layF (A 712) (A 730) (y + 1) = upd (layF (A 712) (A 730) y) y (hiF (A 712 y) (layF (A 712) (A 730) y) y + 1) from rfl, ← bx_uu A 730 (layF (A 712) (A 730) y), ← nI_1] at e
      exact wk _ _ _ _ _ _ _ e (by repeat (first | exact ln | refine l0 ?_ | refine l1 rfl ?_))
    · refine mldk (f := 712) hS (by decide) k rfl (by show k < 8; omega) ?_
      refine m_has (fun c3 => br1 ?_) (fun c3 => br0 ?_)
      · refine mldk (f := 730) hS (by decide) y rfl (by show y < 8; omega) ?_
        refine And.intro (fun c4 => ?_) (fun c4 => ?_)
        · have e := ih2 w
          rw [show hiF (A 712 k) (layF (A 712) (A 730) k) (y + 1) = hiF (A 712 k) (layF (A 712) (A 730) k) y from if_neg (fun q => absurd q.2 (Int32.not_lt.mpr c4)), ← nI_1] at e
          exact e
        · refine mldk (f := 730) hS (by decide) y rfl (by show y < 8; omega) ?_
          have e := ih2 w
          rw [show hiF (A 712 k) (layF (A 712) (A 730) k) (y + 1) = layF (A 712) (A 730) k y from if_pos ⟨c3, Int32.not_le.mp c4⟩, ← nI_1] at e
          exact e
      · have e := ih2 w
        rw [show hiF (A 712 k) (layF (A 712) (A 730) k) (y + 1) = hiF (A 712 k) (layF (A 712) (A 730) k) y from if_neg (fun q => c3 q.1), ← nI_1] at e
        exact e
/-- the longest line with a BLOCK that has c -/
def lgL (t : Nat → Int32) (c : Int32) : Nat → Nat → Nat
  | 0, j => j
  | f + 1, j => if c < t (j + 1) then j else lgL t c f (j + 1)
abbrev lgB (A : Nat → Nat → Int32) (c b : Nat) : Nat := lgL (fun j => tkN A c (nI j)) (A 715 b) 30 0
def lgS (l : Nat → Nat) : Nat → Int32 × Int32
  | 0 => (0, -1)
  | k + 1 => if (lgS l k).2 < nI (l k) then (nI k, nI (l k)) else lgS l k
theorem m_longest {cl wh : Int32} (hS : MSh h (x + 1)) (hI : MIn I n cm at' am by' tm) (hb : ¬ (inB cl cm ∧ inR wh 0 1) → kk (some (.inl eBAD)) (MU h (x + 1) I A))
    (hg : ∀ c, c < cm → cl = nI c → inR wh 0 1 → kk (some (.inl (if wh = 0 then (lgS (lgB A c) n).2 else (lgS (lgB A c) n).1))) (MU h (x + 1) I A)) : CL (d + 3) mX7_longest 0 0 [.inr (.inr (8, x + 1)), .inl cl, .inl wh] (MU h (x + 1) I A) kk := by
  obtain ⟨⟨hn, hn8⟩, ⟨hc, hc4⟩, -⟩ := hI
  refine mw3 T_X7_longest (fun Wm go wk => go (cut1 28) 80 0 _ _ _ _ _ ?_)
  refine m_isClerk hc (by omega) (fun c1 => br1 ?_) (fun c1 => br0 (hb (fun z => c1 z.1)))
  refine m_in (fun c2 => br1 ?_) (fun c2 => br0 (hb (fun z => c2 z.2)))
  obtain ⟨c, hcc, rfl⟩ := inB_of c1 (by omega)
  refine upto (n := n) (P := fun k => Wm 28 [some (.inr (.inr (8, x + 1))), some (.inl (nI c)), some (.inl wh), some (.inl (lgS (lgB A c) k).1), some (.inl (lgS (lgB A c) k).2), some (.inl (nI k)), none] [] (MU h (x + 1) I A) 0 0) (fun k hkn ih => ?_) 0 (Nat.zero_le _)
  refine go (cut2 28 40) 90 28 _ _ _ _ _ ?_
  refine icg rfl ((MU_fI _ _ _ _ _).trans hn) (by omega) (by omega) (fun z => ?_) (fun z => ?_)
  · have e : k = n := by omega
    subst e
    have q := hg c hcc rfl c2
    refine And.intro (fun w => ?_) (fun w => ?_)
    · rw [if_pos w] at q; exact q
    · rw [if_neg w] at q; exact q
  · have ext : ∀ j, j = lgB A c k → Wm 76 [some (.inr (.inr (8, x + 1))), some (.inl (nI c)), some (.inl wh), some (.inl (lgS (lgB A c) k).1), some (.inl (lgS (lgB A c) k).2), some (.inl (nI k)), some (.inl (nI j))] [] (MU h (x + 1) I A) 0 0 := by
      intro j hj
      subst hj
      refine go (cut2 28 40) 90 76 _ _ _ _ _ ?_
      refine And.intro (fun w => And.intro (fun _ => ?_) (fun w2 => absurd w w2)) (fun w => And.intro (fun w2 => absurd w2 w) (fun _ => ?_))
      · have e := ih z
        rw [show lgS (lgB A c) (k + 1) = lgS (lgB A c) k from if_neg (Int32.not_lt.mpr w), ← nI_1] at e
        exact wk _ _ _ _ _ _ _ e (by repeat (first | exact ln | refine l0 ?_ | refine l1 rfl ?_))
      · have e := ih z
        rw [show lgS (lgB A c) (k + 1) = (nI k, nI (lgB A c k)) from if_pos (Int32.not_le.mp w), ← nI_1] at e
        exact wk _ _ _ _ _ _ _ e (by repeat (first | exact ln | refine l0 ?_ | refine l1 rfl ?_))
    have inner : ∀ f j, j + f = 30 → lgL (fun j => tkN A c (nI j)) (A 715 k) f j = lgB A c k → Wm 40 [some (.inr (.inr (8, x + 1))), some (.inl (nI c)), some (.inl wh), some (.inl (lgS (lgB A c) k).1), some (.inl (lgS (lgB A c) k).2), some (.inl (nI k)), some (.inl (nI j))] [] (MU h (x + 1) I A) 0 0 := by
      intro f
      induction f with
      | zero =>
        intro j hj he
        refine go (cut3 28 40 76) 90 40 _ _ _ _ _ ?_
        refine icg rfl (show (30 : Int32) = nI 30 from rfl) (by omega) (by omega) (fun w => ?_) (fun w => by omega)
        exact ext j he
      | succ f ih2 =>
        intro j hj he
        refine go (cut3 28 40 76) 90 40 _ _ _ _ _ ?_
        refine icg rfl (show (30 : Int32) = nI 30 from rfl) (by omega) (by omega) (fun w => by omega) (fun w => ?_)
        refine m_takesOf (f := 715) (MU_e _ _ _ _ _ _) hS (Or.inl rfl) (by omega) ?_
        refine mldk (f := 715) hS (by decide) k rfl (by show k < 14; omega) ?_
        have he : (if A 715 k < tkN A c (nI (j + 1)) then j else lgL (fun j => tkN A c (nI j)) (A 715 k) f (j + 1)) = lgB A c k := he
        rw [← nI_1] at he
        refine And.intro (fun c4 => ?_) (fun c4 => ?_)
        · rw [if_pos c4] at he
          exact ext j he
        · rw [if_neg c4] at he
          have e := ih2 (j + 1) (by omega) he
          rw [← nI_1] at e
          exact e
    exact inner 30 0 (by omega) rfl
end M6
