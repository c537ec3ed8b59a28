/-! ===== the reference: acts ===== -/
theorem up_id {α : Type} (A : Nat → α) (f : Nat) : va_up A f (A f) = A := by
  funext j
  unfold va_up
  split
  · next e => rw [e]
  · rfl
theorem cpy_0 {α : Type} (f g : Nat → α) (sp dp : Nat) : va_cpy f g sp dp 0 = g := by
  funext k
  unfold va_cpy
  rw [if_neg (by omega)]
theorem cpy_s (f g : Nat → Int32) (sp dp n : Nat) : upd (va_cpy f g sp dp n) (dp + n) (f (sp + n)) = va_cpy f g sp dp (n + 1) := by
  funext k
  unfold upd va_cpy
  by_cases h : k = dp + n
  · rw [if_pos h, if_pos (by omega), show sp + (k - dp) = sp + n by omega]
  · rw [if_neg h]
    by_cases h2 : dp ≤ k ∧ k < dp + n
    · rw [if_pos h2, if_pos (by omega)]
    · rw [if_neg h2, if_neg (by omega)]
abbrev inB (v : Int32) (n : Nat) : Prop := 0 ≤ v.toInt ∧ v.toInt < (n : Int)
theorem inB_of {v : Int32} {n : Nat} (h : inB v n) (hn : n < 2 ^ 31) : ∃ b, b < n ∧ v = nI b := vp_in_of (vp_in_iff.mpr h) hn
theorem inB_nI {b n : Nat} (h : b < n) (hn : n < 2 ^ 31) : inB (nI b) n := vp_in_iff.mp (vp_in_nI h hn)
theorem inR_B {v : Int32} {n : Nat} (hn : n < 1000) : inR v 0 (nI n - 1) ↔ inB v n := by
  have e : (nI n - 1).toInt = (n : Int) - 1 := pk_sub_toInt (b := 1) (by omega) (by omega)
  unfold inR inB
  rw [Int32.le_iff_toInt_le, Int32.le_iff_toInt_le, e]
  show 0 ≤ v.toInt ∧ _ ↔ _
  omega
theorem shl_n : ∀ n, n ≤ 8 → (1 : Int32) <<< (nI n &&& 31) = nI (2 ^ n) := by decide
section M3
variable {d x n cm at' : Nat} {h : hp} {I : Nat → Int32} {A : Nat → Nat → Int32} {kk : Rt}
theorem m_isBlock {v : Int32} (hn : I 707 = nI n) (hn8 : n ≤ 8) (ht : inB v n → kk (some (.inl 1)) (MU h (x + 1) I A)) (hf : ¬ inB v n → kk (some (.inl 0)) (MU h (x + 1) I A)) : CL (d + 1) mX7_isBlock 0 0 [.inr (.inr (8, x + 1)), .inl v] (MU h (x + 1) I A) kk := by
  refine mw T_X7_isBlock (fun Wm go => go cut0 40 0 _ _ _ _ _ ?_)
  have e : hfI (MU h (x + 1) I A) 707 (x + 1) = nI n := (MU_fI _ _ _ _ _).trans hn
  refine m_in (fun c => And.intro (Or.inr rfl) (ht ?_)) (fun c => And.intro (Or.inl rfl) (hf ?_))
  · rw [e] at c; exact (inR_B (by omega)).mp c
  · rw [e] at c; exact fun z => c ((inR_B (by omega)).mpr z)
theorem m_isClerk {v : Int32} (hn : I 709 = nI n) (hn8 : n ≤ 8) (ht : inB v n → kk (some (.inl 1)) (MU h (x + 1) I A)) (hf : ¬ inB v n → kk (some (.inl 0)) (MU h (x + 1) I A)) : CL (d + 1) mX7_isClerk 0 0 [.inr (.inr (8, x + 1)), .inl v] (MU h (x + 1) I A) kk := by
  refine mw T_X7_isClerk (fun Wm go => go cut0 40 0 _ _ _ _ _ ?_)
  have e : hfI (MU h (x + 1) I A) 709 (x + 1) = nI n := (MU_fI _ _ _ _ _).trans hn
  refine m_in (fun c => And.intro (Or.inr rfl) (ht ?_)) (fun c => And.intro (Or.inl rfl) (hf ?_))
  · rw [e] at c; exact (inR_B (by omega)).mp c
  · rw [e] at c; exact fun z => c ((inR_B (by omega)).mpr z)
theorem m_isBlocks {v : Int32} (hn : I 707 = nI n) (hn8 : n ≤ 8) (ht : inB v (2 ^ n) → kk (some (.inl 1)) (MU h (x + 1) I A)) (hf : ¬ inB v (2 ^ n) → kk (some (.inl 0)) (MU h (x + 1) I A)) : CL (d + 1) mX7_isBlocks 0 0 [.inr (.inr (8, x + 1)), .inl v] (MU h (x + 1) I A) kk := by
  have h256 : 2 ^ n ≤ 256 := Nat.pow_le_pow_right (by omega) hn8
  refine mw T_X7_isBlocks (fun Wm go => go cut0 40 0 _ _ _ _ _ ?_)
  have e : hfI (MU h (x + 1) I A) 707 (x + 1) = nI n := (MU_fI _ _ _ _ _).trans hn
  refine m_in (fun c => And.intro (Or.inr rfl) (ht ?_)) (fun c => And.intro (Or.inl rfl) (hf ?_))
  · have c : inR v 0 ((1 : Int32) <<< (hfI (MU h (x + 1) I A) 707 (x + 1) &&& 31) - 1) := c
    rw [e, shl_n n hn8] at c; exact (inR_B (by omega)).mp c
  · have c : ¬ inR v 0 ((1 : Int32) <<< (hfI (MU h (x + 1) I A) 707 (x + 1) &&& 31) - 1) := c
    rw [e, shl_n n hn8] at c; exact fun z => c ((inR_B (by omega)).mpr z)
/-- what a writing makes of a state: of the BLOCK b by the clerk c -/
def wrF (a : Nat → Int32) (b c : Nat) (by' lines : Int32) : Nat → Int32 := upd (upd (upd a b (a b - by')) 12 (upd a b (a b - by') 12 + by')) (8 + c) (upd (upd a b (a b - by')) 12 (upd a b (a b - by') 12 + by') (8 + c) + lines)
theorem m_writes {f b c : Nat} {lines : Int32} {w : Nat} (hw : w = hfR h f (x + 1)) (hS : MSh h (x + 1)) (hf : Mof f) (hb : b < 8) (hc : c < 4) (h0 : A f b < tkB (A 714 c) (A 713 c) lines (A f 13) → kk (some (.inl 0)) (MU h (x + 1) I A)) (h1 : ¬ A f b < tkB (A 714 c) (A 713 c) lines (A f 13) → kk (some (.inl 1)) (MU h (x + 1) I (va_up A f (wrF (A f) b c (tkB (A 714 c) (A 713 c) lines (A f 13)) lines)))) : CL (d + 3) mX7_writes 0 0 [.inr (.inr (8, x + 1)), .inr (.inr (20, w)), .inl (nI c), .inl lines, .inl (nI b)] (MU h (x + 1) I A) kk := by
  subst hw
  have e8 : (8 : Int32) + nI c = nI (8 + c) := by rw [show (8 : Int32) = nI 8 from rfl, nI_add]
  rcases hf with rfl | rfl
  · refine mw T_X7_writes (fun Wm go => go cut0 80 0 _ _ _ _ _ ?_)
    refine m_takesOf rfl hS (Or.inl rfl) hc ?_
    refine mldk (f := 715) hS (by decide) b rfl (by show b < 14; omega) ?_
    refine And.intro (fun c1 => ?_) (fun c1 => And.intro (Or.inl rfl) (h0 (Int32.not_le.mp c1)))
    have k := h1 (Int32.not_lt.mpr c1)
    refine mldk (f := 715) hS (by decide) b rfl (by show b < 14; omega) ?_
    refine mstk (f := 715) hS (by decide) b rfl (by show b < 14; omega) ?_
    refine mldk (f := 715) hS (by decide) 12 rfl (by decide) ?_
    refine mstk (f := 715) hS (by decide) 12 rfl (by decide) ?_
    refine mldk (f := 715) hS (by decide) (8 + c) e8 (by show 8 + c < 14; omega) ?_
    refine mstk (f := 715) hS (by decide) (8 + c) e8 (by show 8 + c < 14; omega) ?_
    refine And.intro (Or.inr rfl) (kki k rfl ?_)
    rw [bx_uu, bx_uu]
    rfl
  · refine mw T_X7_writes (fun Wm go => go cut0 80 0 _ _ _ _ _ ?_)
    refine m_takesOf rfl hS (Or.inr rfl) hc ?_
    refine mldk (f := 716) hS (by decide) b rfl (by show b < 14; omega) ?_
    refine And.intro (fun c1 => ?_) (fun c1 => And.intro (Or.inl rfl) (h0 (Int32.not_le.mp c1)))
    have k := h1 (Int32.not_lt.mpr c1)
    refine mldk (f := 716) hS (by decide) b rfl (by show b < 14; omega) ?_
    refine mstk (f := 716) hS (by decide) b rfl (by show b < 14; omega) ?_
    refine mldk (f := 716) hS (by decide) 12 rfl (by decide) ?_
    refine mstk (f := 716) hS (by decide) 12 rfl (by decide) ?_
    refine mldk (f := 716) hS (by decide) (8 + c) e8 (by show 8 + c < 14; omega) ?_
    refine mstk (f := 716) hS (by decide) (8 + c) e8 (by show 8 + c < 14; omega) ?_
    refine And.intro (Or.inr rfl) (kki k rfl ?_)
    rw [bx_uu, bx_uu]
    rfl
theorem m_restingOn {b : Int32} (hS : MSh h (x + 1)) (hn : I 707 = nI n) (hn8 : n ≤ 8) (hk : kk (some (.inl (mkS (fun k => decide (hasB (A 712 k) b)) n))) (MU h (x + 1) I A)) : CL (d + 1) mX7_restingOn 0 0 [.inr (.inr (8, x + 1)), .inl b] (MU h (x + 1) I A) kk := by
  refine mw T_X7_restingOn (fun Wm go => ?_)
  refine go (cut1 4) 20 0 _ _ _ _ _ ?_
  refine upto (n := n) (P := fun k => Wm 4 [some (.inr (.inr (8, x + 1))), some (.inl b), some (.inl (mkS (fun k => decide (hasB (A 712 k) b)) k)), some (.inl (nI k))] [] (MU h (x + 1) I A) 0 0) (fun k hkn ih => ?_) 0 (Nat.zero_le _)
  refine go (cut1 4) 60 4 _ _ _ _ _ ?_
  refine icg rfl ((MU_fI _ _ _ _ _).trans hn) (by omega) (by omega) (fun c => ?_) (fun c => ?_)
  · have e : k = n := by omega
    subst e
    exact hk
  · refine mldk (f := 712) hS (by decide) k rfl (by show k < 8; omega) ?_
    refine m_has (fun c3 => br1 ?_) (fun c3 => br0 ?_)
    · have e := ih c
      rw [mkS_1 (decide_eq_true c3), ← nI_1] at e
      exact e
    · have e := ih c
      rw [mkS_0 (fun z => c3 (of_decide_eq_true z)), ← nI_1] at e
      exact e
/-- rain over a state, the set that stands and the rests given -/
abbrev wetB (a on : Nat → Int32) (n j : Nat) : Prop := hasB (stP on (posB a) n) (nI j) ∧ mkS (fun q => decide (hasB (on q) (nI j))) n &&& stP on (posB a) n = 0
def rainF (a on : Nat → Int32) (rain : Int32) (n k j : Nat) : Int32 := if j < k ∧ wetB a on n j then (if rain < a j then a j - rain else 0) else a j
theorem rainF_0 (a on : Nat → Int32) (rain : Int32) (n : Nat) : rainF a on rain n 0 = a := by
  funext j
  unfold rainF
  rw [if_neg (by omega)]
theorem rainF_s {a on : Nat → Int32} {rain : Int32} {n k : Nat} : rainF a on rain n (k + 1) = upd (rainF a on rain n k) k (if wetB a on n k then (if rain < a k then a k - rain else 0) else a k) := by
  funext j
  show rainF a on rain n (k + 1) j = (if j = k then _ else rainF a on rain n k j)
  unfold rainF
  by_cases h : j = k
  · subst h
    rw [if_pos rfl]
    by_cases c : wetB a on n j
    · rw [if_pos ⟨by omega, c⟩, if_pos c]
    · rw [if_neg (fun z => c z.2), if_neg c]
  · rw [if_neg h]
    by_cases c : j < k ∧ wetB a on n j
    · rw [if_pos c, if_pos ⟨by omega, c.2⟩]
    · rw [if_neg c, if_neg (fun z => c ⟨by omega, z.2⟩)]
theorem rainF_at (a on : Nat → Int32) (rain : Int32) (n k : Nat) : rainF a on rain n k k = a k := by
  unfold rainF
  rw [if_neg (by omega)]
theorem m_rainsOn715 {w : Nat} (hw : w = hfR h 715 (x + 1)) (hS : MSh h (x + 1)) (hn : I 707 = nI n) (hn8 : n ≤ 8) (hk : kk none (MU h (x + 1) I (va_up A 715 (rainF (A 715) (A 712) (I 710) n n)))) : CL (d + 2) mX7_rainsOn 0 0 [.inr (.inr (8, x + 1)), .inr (.inr (20, w))] (MU h (x + 1) I A) kk := by
  subst hw
  refine mw3 T_X7_rainsOn (fun Wm go wk => ?_)
  refine go (cut1 8) 20 0 _ _ _ _ _ ?_
  refine m_standing rfl hS hn hn8 (Or.inl rfl) ?_
  have start := upto (n := n) (P := fun k => Wm 8 [some (.inr (.inr (8, x + 1))), some (.inr (.inr (20, hfR h 715 (x + 1)))), some (.inl (stP (A 712) (posB (A 715)) n)), some (.inl (nI k)), none] [] (MU h (x + 1) I (va_up A 715 (rainF (A 715) (A 712) (I 710) n k))) 0 0) (fun k hkn ih => ?_) 0 (Nat.zero_le _)
  · rw [rainF_0, up_id] at start
    exact start
  refine go (cut1 8) 60 8 _ _ _ _ _ ?_
  refine icg rfl ((MU_fI _ _ _ _ _).trans hn) (by omega) (by omega) (fun c => ?_) (fun c => ?_)
  · have e : k = n := by omega
    subst e
    exact hk
  · have hk14 : k < mlen 715 := by show k < 14; omega
    refine m_has (fun c3 => br1 ?_) (fun c3 => br0 ?_)
    · refine m_restingOn hS hn hn8 ?_
      refine And.intro (fun c4 => ?_) (fun c4 => ?_)
      · have cc : wetB (A 715) (A 712) n k := ⟨c3, c4⟩
        refine br1 ?_
        refine mldk (f := 715) hS (by decide) k rfl hk14 ?_
        refine And.intro (fun c5 => ?_) (fun c5 => ?_)
        · refine mstk (f := 715) hS (by decide) k rfl hk14 ?_
          have c5 : rainF (A 715) (A 712) (I 710) n k k ≤ hfI (MU h (x + 1) I (va_up A 715 (rainF (A 715) (A 712) (I 710) n k))) 710 (x + 1) := c5
          rw [rainF_at, MU_fI] at c5
          have e := ih c
          rw [rainF_s, if_pos cc, if_neg (Int32.not_lt.mpr c5), ← bx_uu A 715 (rainF (A 715) (A 712) (I 710) n k), ← nI_1] at e
          exact wk _ _ _ _ _ _ _ e (by repeat (first | exact ln | refine l0 ?_ | refine l1 rfl ?_))
        · refine mldk (f := 715) hS (by decide) k rfl hk14 ?_
          refine mstk (f := 715) hS (by decide) k rfl hk14 ?_
          have c5 : ¬ rainF (A 715) (A 712) (I 710) n k k ≤ hfI (MU h (x + 1) I (va_up A 715 (rainF (A 715) (A 712) (I 710) n k))) 710 (x + 1) := c5
          rw [rainF_at, MU_fI] at c5
          have e := ih c
          rw [rainF_s, if_pos cc, if_pos (Int32.not_le.mp c5), ← bx_uu A 715 (rainF (A 715) (A 712) (I 710) n k), ← nI_1] at e
          refine wk _ _ _ _ _ _ _ (wmc e rfl ?_) (by repeat (first | exact ln | refine l0 ?_ | refine l1 rfl ?_))
          show MU h (x + 1) I (va_up _ 715 (upd _ k (rainF (A 715) (A 712) (I 710) n k k - hfI (MU h (x + 1) I (va_up A 715 (rainF (A 715) (A 712) (I 710) n k))) 710 (x + 1)))) = _
          rw [rainF_at, MU_fI]
          rfl
      · have cc : ¬ (wetB (A 715) (A 712) n k) := fun z => c4 z.2
        refine br0 ?_
        refine mldk (f := 715) hS (by decide) k rfl hk14 ?_
        refine mstk (f := 715) hS (by decide) k rfl hk14 ?_
        have e := ih c
        rw [rainF_s, if_neg cc, ← bx_uu A 715 (rainF (A 715) (A 712) (I 710) n k), ← nI_1] at e
        refine wk _ _ _ _ _ _ _ (wmc e rfl ?_) (by repeat (first | exact ln | refine l0 ?_ | refine l1 rfl ?_))
        show MU h (x + 1) I (va_up _ 715 (upd _ k (rainF (A 715) (A 712) (I 710) n k k))) = _
        rw [rainF_at]
        rfl
    · have cc : ¬ (wetB (A 715) (A 712) n k) := fun z => c3 z.1
      refine br0 ?_
      refine mldk (f := 715) hS (by decide) k rfl hk14 ?_
      refine mstk (f := 715) hS (by decide) k rfl hk14 ?_
      have e := ih c
      rw [rainF_s, if_neg cc, ← bx_uu A 715 (rainF (A 715) (A 712) (I 710) n k), ← nI_1] at e
      refine wk _ _ _ _ _ _ _ (wmc e rfl ?_) (by repeat (first | exact ln | refine l0 ?_ | refine l1 rfl ?_))
      show MU h (x + 1) I (va_up _ 715 (upd _ k (rainF (A 715) (A 712) (I 710) n k k))) = _
      rw [rainF_at]
      rfl
theorem m_rainsOn716 {w : Nat} (hw : w = hfR h 716 (x + 1)) (hS : MSh h (x + 1)) (hn : I 707 = nI n) (hn8 : n ≤ 8) (hk : kk none (MU h (x + 1) I (va_up A 716 (rainF (A 716) (A 712) (I 710) n n)))) : CL (d + 2) mX7_rainsOn 0 0 [.inr (.inr (8, x + 1)), .inr (.inr (20, w))] (MU h (x + 1) I A) kk := by
  subst hw
  refine mw3 T_X7_rainsOn (fun Wm go wk => ?_)
  refine go (cut1 8) 20 0 _ _ _ _ _ ?_
  refine m_standing rfl hS hn hn8 (Or.inr rfl) ?_
  have start := upto (n := n) (P := fun k => Wm 8 [some (.inr (.inr (8, x + 1))), some (.inr (.inr (20, hfR h 716 (x + 1)))), some (.inl (stP (A 712) (posB (A 716)) n)), some (.inl (nI k)), none] [] (MU h (x + 1) I (va_up A 716 (rainF (A 716) (A 712) (I 710) n k))) 0 0) (fun k hkn ih => ?_) 0 (Nat.zero_le _)
  · rw [rainF_0, up_id] at start
    exact start
  refine go (cut1 8) 60 8 _ _ _ _ _ ?_
  refine icg rfl ((MU_fI _ _ _ _ _).trans hn) (by omega) (by omega) (fun c => ?_) (fun c => ?_)
  · have e : k = n := by omega
    subst e
    exact hk
  · have hk14 : k < mlen 716 := by show k < 14; omega
    refine m_has (fun c3 => br1 ?_) (fun c3 => br0 ?_)
    · refine m_restingOn hS hn hn8 ?_
      refine And.intro (fun c4 => ?_) (fun c4 => ?_)
      · have cc : wetB (A 716) (A 712) n k := ⟨c3, c4⟩
        refine br1 ?_
        refine mldk (f := 716) hS (by decide) k rfl hk14 ?_
        refine And.intro (fun c5 => ?_) (fun c5 => ?_)
        · refine mstk (f := 716) hS (by decide) k rfl hk14 ?_
          have c5 : rainF (A 716) (A 712) (I 710) n k k ≤ hfI (MU h (x + 1) I (va_up A 716 (rainF (A 716) (A 712) (I 710) n k))) 710 (x + 1) := c5
          rw [rainF_at, MU_fI] at c5
          have e := ih c
          rw [rainF_s, if_pos cc, if_neg (Int32.not_lt.mpr c5), ← bx_uu A 716 (rainF (A 716) (A 712) (I 710) n k), ← nI_1] at e
          exact wk _ _ _ _ _ _ _ e (by repeat (first | exact ln | refine l0 ?_ | refine l1 rfl ?_))
        · refine mldk (f := 716) hS (by decide) k rfl hk14 ?_
          refine mstk (f := 716) hS (by decide) k rfl hk14 ?_
          have c5 : ¬ rainF (A 716) (A 712) (I 710) n k k ≤ hfI (MU h (x + 1) I (va_up A 716 (rainF (A 716) (A 712) (I 710) n k))) 710 (x + 1) := c5
          rw [rainF_at, MU_fI] at c5
          have e := ih c
          rw [rainF_s, if_pos cc, if_pos (Int32.not_le.mp c5), ← bx_uu A 716 (rainF (A 716) (A 712) (I 710) n k), ← nI_1] at e
          refine wk _ _ _ _ _ _ _ (wmc e rfl ?_) (by repeat (first | exact ln | refine l0 ?_ | refine l1 rfl ?_))
          show MU h (x + 1) I (va_up _ 716 (upd _ k (rainF (A 716) (A 712) (I 710) n k k - hfI (MU h (x + 1) I (va_up A 716 (rainF (A 716) (A 712) (I 710) n k))) 710 (x + 1)))) = _
          rw [rainF_at, MU_fI]
          rfl
      · have cc : ¬ (wetB (A 716) (A 712) n k) := fun z => c4 z.2
        refine br0 ?_
        refine mldk (f := 716) hS (by decide) k rfl hk14 ?_
        refine mstk (f := 716) hS (by decide) k rfl hk14 ?_
        have e := ih c
        rw [rainF_s, if_neg cc, ← bx_uu A 716 (rainF (A 716) (A 712) (I 710) n k), ← nI_1] at e
        refine wk _ _ _ _ _ _ _ (wmc e rfl ?_) (by repeat (first | exact ln | refine l0 ?_ | refine l1 rfl ?_))
        show MU h (x + 1) I (va_up _ 716 (upd _ k (rainF (A 716) (A 712) (I 710) n k k))) = _
        rw [rainF_at]
        rfl
    · have cc : ¬ (wetB (A 716) (A 712) n k) := fun z => c3 z.1
      refine br0 ?_
      refine mldk (f := 716) hS (by decide) k rfl hk14 ?_
      refine mstk (f := 716) hS (by decide) k rfl hk14 ?_
      have e := ih c
      rw [rainF_s, if_neg cc, ← bx_uu A 716 (rainF (A 716) (A 712) (I 710) n k), ← nI_1] at e
      refine wk _ _ _ _ _ _ _ (wmc e rfl ?_) (by repeat (first | exact ln | refine l0 ?_ | refine l1 rfl ?_))
      show MU h (x + 1) I (va_up _ 716 (upd _ k (rainF (A 716) (A 712) (I 710) n k k))) = _
      rw [rainF_at]
      rfl
theorem ix14 (a k : Nat) : (14 : Int32) * nI a + nI k = nI (14 * a + k) := by rw [show (14 : Int32) = nI 14 from rfl, pk_mul, nI_add]
theorem m_remember (hS : MSh h (x + 1)) (hat : I 728 = nI at') (hat24 : at' < 24) (hk : kk none (MU h (x + 1) (upd (upd I 728 (nI ((at' + 1) % 24))) 727 (leastI (I 727 + 1) 24)) (va_up A 729 (va_cpy (A 715) (A 729) 0 (14 * at') 14)))) : CL (d + 1) mX7_remember 0 0 [.inr (.inr (8, x + 1))] (MU h (x + 1) I A) kk := by
  refine mw T_X7_remember (fun Wm go => ?_)
  refine go (cut1 2) 20 0 _ _ _ _ _ ?_
  have start := upto (n := 14) (P := fun k => Wm 2 [some (.inr (.inr (8, x + 1))), some (.inl (nI k))] [] (MU h (x + 1) I (va_up A 729 (va_cpy (A 715) (A 729) 0 (14 * at') k))) 0 0) (fun k hkn ih => ?_) 0 (Nat.zero_le _)
  · rw [cpy_0, up_id] at start
    exact start
  refine go (cut1 2) 60 2 _ _ _ _ _ ?_
  refine icg rfl (show (14 : Int32) = nI 14 from rfl) (by omega) (by omega) (fun c => ?_) (fun c => ?_)
  · have e : k = 14 := by omega
    subst e
    refine And.intro (by decide) ?_
    refine m_least (kkc hk rfl ?_)
    rw [MU_wI, MU_fI, MU_wI, MU_fI, hat]
    have e1 : nI at' + 1 - (nI at' + 1) / 24 * 24 = nI ((at' + 1) % 24) := by
      rw [nI_1, show (24 : Int32) = nI 24 from rfl]
      exact pk_rem (by omega) (by omega) (by omega)
    dsimp only
    rw [e1]
    rfl
  · have hi : (14 : Int32) * hfI (MU h (x + 1) I (va_up A 729 (va_cpy (A 715) (A 729) 0 (14 * at') k))) 728 (x + 1) + nI k = nI (14 * at' + k) := by rw [MU_fI, hat, ix14]
    refine mldk (f := 715) hS (by decide) k rfl (by show k < 14; omega) ?_
    refine mstk (f := 729) hS (by decide) (14 * at' + k) hi (by show _ < 336; omega) ?_
    have e := ih c
    rw [← cpy_s, Nat.zero_add, ← bx_uu A 729 (va_cpy (A 715) (A 729) 0 (14 * at') k), ← nI_1] at e
    exact e
end M3
