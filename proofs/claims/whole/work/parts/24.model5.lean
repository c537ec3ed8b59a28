/-! ===== the reference: foretold, by sets ===== -/
/-- the arrays that no later call shows (tried, layers) may differ -/
def EA (A A' : Nat → Nat → Int32) : Prop := ∀ f, f ≠ 716 → f ≠ 730 → A' f = A f
theorem EA.rf (A : Nat → Nat → Int32) : EA A A := fun _ _ _ => rfl
theorem EA.tr {A A' A'' : Nat → Nat → Int32} (h : EA A A') (h' : EA A' A'') : EA A A'' := fun f a b => (h' f a b).trans (h f a b)
theorem EA.u6 (A : Nat → Nat → Int32) (g : Nat → Int32) : EA A (va_up A 716 g) := fun f a _ => va_up_ne _ _ a
theorem EA.u0 (A : Nat → Nat → Int32) (g : Nat → Int32) : EA A (va_up A 730 g) := fun f _ a => va_up_ne _ _ a
theorem stP_congr {on on' : Nat → Int32} {p q : Nat → Bool} : ∀ {n : Nat}, (∀ k, k < n → on k = on' k ∧ p k = q k) → stP on p n = stP on' q n
  | 0, _ => rfl
  | n + 1, h => by
    have ih := stP_congr (n := n) (fun k hk => h k (by omega))
    have e := h n (by omega)
    show stP on p n ||| (if p n = true ∧ (on n = 0 ∨ ¬ on n &&& stP on p n = 0) then _ else _) = stP on' q n ||| (if q n = true ∧ (on' n = 0 ∨ ¬ on' n &&& stP on' q n = 0) then _ else _)
    rw [ih, e.1, e.2]
theorem smI_congr {f g : Nat → Int32} : ∀ {n : Nat}, (∀ k, k < n → f k = g k) → smI f n = smI g n
  | 0, _ => rfl
  | n + 1, h => by
    show smI f n + f n = smI g n + g n
    rw [smI_congr (fun k hk => h k (by omega)), h n (by omega)]
abbrev stW (A : Nat → Nat → Int32) (n : Nat) (set : Int32) : Int32 := stP (A 712) (fun k => posB (A 715) k && !decide (hasB set (nI k))) n
/-- popcount, by its loop -/
def pcF : Nat → Nat → Nat
  | 0, _ => 0
  | f + 1, m => if m = 0 then 0 else 1 + pcF f (m &&& (m - 1))
def pcI : Nat → Nat → Nat
  | 0, m => m
  | f + 1, m => pcI f (m &&& (m - 1))
abbrev pc8 (m : Nat) : Nat := pcF 8 m
theorem pcI_8 : ∀ m, m < 256 → pcI 8 m = 0 := by decide +kernel
theorem pc8_le : ∀ m, m < 256 → pc8 m ≤ 8 := by decide +kernel
theorem and_pred {m : Nat} (h : 0 < m) (hm : m < 2 ^ 31) : nI m &&& (nI m - 1) = nI (m &&& (m - 1)) := by
  have e : nI m - 1 = nI (m - 1) := pk_sub (b := 1) h
  rw [e]
  apply Int32.toBitVec_inj.mp
  rw [Int32.toBitVec_and]
  show BitVec.ofNat 32 m &&& BitVec.ofNat 32 (m - 1) = BitVec.ofNat 32 (m &&& (m - 1))
  exact (BitVec.ofNat_and ..).symm
section M5
variable {d x n cm at' am by' tm : Nat} {h : hp} {I : Nat → Int32} {A : Nat → Nat → Int32} {kk : Rt}
theorem m_bits {m : Nat} (hm : m < 256) (hk : kk (some (.inl (nI (pc8 m)))) h) : CL d mX7_bits 0 0 [.inl (nI m)] h kk := by
  refine mw T_X7_bits (fun Wm go => go (cut1 4) 80 0 _ _ _ _ _ ?_)
  have key : ∀ f m' a, m' ≤ m → pcI f m' = 0 → a + pcF f m' = pc8 m → Wm 4 [some (.inl (nI m)), some (.inl (nI a)), some (.inl (nI m'))] [] h 0 0 := by
    intro f
    induction f with
    | zero =>
      intro m' a h0 h1 h2
      refine go (cut1 4) 60 4 _ _ _ _ _ (And.intro (fun c => ?_) (fun c => ?_))
      · exact kki hk (by rw [← h2]; rfl) rfl
      · exact absurd (by show nI m' = 0; rw [show m' = 0 from h1]; rfl) c
    | succ f ih =>
      intro m' a h0 h1 h2
      refine go (cut1 4) 60 4 _ _ _ _ _ (And.intro (fun c => ?_) (fun c => ?_))
      · have e : m' = 0 := (nI_eq (by omega) (by omega)).mp (show nI m' = nI 0 from c)
        subst e
        exact kki hk (by rw [← h2]; rfl) rfl
      · have e : m' ≠ 0 := fun z => c (by show nI m' = 0; rw [z]; rfl)
        have hle : m' &&& (m' - 1) ≤ m' := Nat.and_le_left
        have q := ih (m' &&& (m' - 1)) (a + 1) (by omega) h1 (by
          have h2 : a + (if m' = 0 then 0 else 1 + pcF f (m' &&& (m' - 1))) = pc8 m := h2
          rw [if_neg e] at h2
          omega)
        rw [← nI_1, ← and_pred (by omega) (by omega)] at q
        exact q
  exact key 8 m 0 (Nat.le_refl _) (pcI_8 m hm) (Nat.zero_add _)
theorem m_copyNow (hS : MSh h (x + 1)) (hk : kk none (MU h (x + 1) I (va_up A 716 (va_cpy (A 715) (A 716) 0 0 14)))) : CL d mX7_copyNow 0 0 [.inr (.inr (8, x + 1))] (MU h (x + 1) I A) kk := by
  refine mw T_X7_copyNow (fun Wm go => go (cut1 2) 80 0 _ _ _ _ _ ?_)
  have start := upto (n := 14) (P := fun k => Wm 2 [some (.inr (.inr (8, x + 1))), some (.inl (nI k))] [] (MU h (x + 1) I (va_up A 716 (va_cpy (A 715) (A 716) 0 0 k))) 0 0) (fun k hkn ih => ?_) 0 (Nat.zero_le _)
  · rw [cpy_0, up_id] at start
    exact start
  refine go (cut1 2) 60 2 _ _ _ _ _ ?_
  refine icg rfl (show (14 : Int32) = nI 14 from rfl) (by omega) (by omega) (fun c => ?_) (fun c => ?_)
  · have e : k = 14 := by omega
    subst e
    exact hk
  · refine mldk (f := 715) hS (by decide) k rfl (by show k < 14; omega) ?_
    refine mstk (f := 716) hS (by decide) k rfl (by show k < 14; omega) ?_
    have e := ih c
    rw [← cpy_s, Nat.zero_add, ← bx_uu A 716 (va_cpy (A 715) (A 716) 0 0 k), ← nI_1] at e
    exact e
def woF (a : Nat → Int32) (set : Int32) (k j : Nat) : Int32 := if j < k ∧ hasB set (nI j) then 0 else a j
theorem woF_0 (a : Nat → Int32) (set : Int32) : woF a set 0 = a := by
  funext j
  unfold woF
  rw [if_neg (by omega)]
theorem woF_s (a : Nat → Int32) (set : Int32) (k : Nat) : woF a set (k + 1) = upd (woF a set k) k (if hasB set (nI k) then 0 else a k) := by
  funext j
  show woF a set (k + 1) j = (if j = k then _ else woF a set k j)
  unfold woF
  by_cases q : j = k
  · subst q
    rw [if_pos rfl]
    by_cases c : hasB set (nI j)
    · rw [if_pos ⟨by omega, c⟩, if_pos c]
    · rw [if_neg (fun z => c z.2), if_neg c]
  · rw [if_neg q]
    by_cases c : j < k ∧ hasB set (nI j)
    · rw [if_pos c, if_pos ⟨by omega, c.2⟩]
    · rw [if_neg c, if_neg (fun z => c ⟨by omega, z.2⟩)]
theorem woF_at (a : Nat → Int32) (set : Int32) (k : Nat) : woF a set k k = a k := by
  unfold woF
  rw [if_neg (by omega)]
theorem m_standingWithout {set : Int32} (hS : MSh h (x + 1)) (hn : I 707 = nI n) (hn8 : n ≤ 8) (hk : ∀ A', EA A A' → kk (some (.inl (stW A n set))) (MU h (x + 1) I A')) : CL (d + 1) mX7_standingWithout 0 0 [.inr (.inr (8, x + 1)), .inl set] (MU h (x + 1) I A) kk := by
  refine mw T_X7_standingWithout (fun Wm go => go (cut1 6) 80 0 _ _ _ _ _ ?_)
  refine m_copyNow hS ?_
  generalize hB : va_cpy (A 715) (A 716) 0 0 14 = B
  have hBk : ∀ k, k < 8 → B k = A 715 k := fun k hk => by
    rw [← hB]
    show (if 0 ≤ k ∧ k < 0 + 14 then A 715 (0 + (k - 0)) else _) = _
    rw [if_pos (by omega), Nat.zero_add, Nat.sub_zero]
  have start := upto (n := n) (P := fun k => Wm 6 [some (.inr (.inr (8, x + 1))), some (.inl set), some (.inl (nI k))] [] (MU h (x + 1) I (va_up A 716 (woF B set k))) 0 0) (fun k hkn ih => ?_) 0 (Nat.zero_le _)
  · rw [woF_0] at start
    exact start
  refine go (cut1 6) 60 6 _ _ _ _ _ ?_
  refine icg rfl ((MU_fI _ _ _ _ _).trans hn) (by omega) (by omega) (fun c => ?_) (fun c => ?_)
  · have e : k = n := by omega
    subst e
    refine m_standing (f := 716) (MU_e _ _ _ _ _ _) hS hn hn8 (Or.inr rfl) (kki (hk _ (EA.u6 A _)) ?_ rfl)
    apply stP_congr
    intro j hj
    refine ⟨rfl, ?_⟩
    show decide (0 < woF B set k j) = (decide (0 < A 715 j) && !decide (hasB set (nI j)))
    unfold woF
    by_cases q : hasB set (nI j)
    · rw [if_pos ⟨hj, q⟩, decide_eq_true q]
      simp
    · rw [if_neg (fun z => q z.2), decide_eq_false q, hBk j (by omega)]
      simp
  · refine m_has (fun c3 => br1 ?_) (fun c3 => br0 ?_)
    · refine mstk (f := 716) hS (by decide) k rfl (by show k < 14; omega) ?_
      have e := ih c
      rw [woF_s, if_pos c3, ← bx_uu A 716 (woF B set k), ← nI_1] at e
      exact e
    · refine mldk (f := 716) hS (by decide) k rfl (by show k < 14; omega) ?_
      refine mstk (f := 716) hS (by decide) k rfl (by show k < 14; omega) ?_
      have e := ih c
      rw [woF_s, if_neg c3, ← bx_uu A 716 (woF B set k), ← nI_1, ← woF_at B set k] at e
      exact e
theorem m_wouldFall {bs : Int32} (hS : MSh h (x + 1)) (hI : MIn I n cm at' am by' tm) (hs : n = 0 → kk (some (.inl eSTATE)) (MU h (x + 1) I A)) (hb : 0 < n → ¬ inB bs (2 ^ n) → kk (some (.inl eBAD)) (MU h (x + 1) I A))
    (hg : ∀ A', 0 < n → inB bs (2 ^ n) → EA A A' → kk (some (.inl (stN A n &&& (stW A n bs ^^^ (-1))))) (MU h (x + 1) I A')) : CL (d + 2) mX7_wouldFall 0 0 [.inr (.inr (8, x + 1)), .inl bs] (MU h (x + 1) I A) kk := by
  obtain ⟨⟨hn, hn8⟩, -⟩ := hI
  refine mw T_X7_wouldFall (fun Wm go => go cut0 80 0 _ _ _ _ _ ?_)
  refine n0 ((MU_fI _ _ _ _ _).trans hn) hn8 (fun c => hs c) (fun c => ?_)
  refine m_isBlocks hn hn8 (fun c2 => br1 ?_) (fun c2 => br0 (hb c c2))
  refine m_standing (f := 715) (MU_e _ _ _ _ _ _) hS hn hn8 (Or.inl rfl) ?_
  exact m_standingWithout hS hn hn8 (fun A' hE => hg A' c c2 hE)
theorem m_left {cl : Int32} (hS : MSh h (x + 1)) (hI : MIn I n cm at' am by' tm) (hb : ¬ inB cl cm → kk (some (.inl eBAD)) (MU h (x + 1) I A)) (h1 : ∀ c, c < cm → ¬ tkN A c 1 = 0)
    (hg : ∀ c, c < cm → cl = nI c → kk (some (.inl (smI (fun k => A 715 k / tkN A c 1) n))) (MU h (x + 1) I A)) : CL (d + 3) mX7_left 0 0 [.inr (.inr (8, x + 1)), .inl cl] (MU h (x + 1) I A) kk := by
  obtain ⟨⟨hn, hn8⟩, ⟨hc, hc4⟩, -⟩ := hI
  refine mw T_X7_left (fun Wm go => go (cut1 27) 80 0 _ _ _ _ _ ?_)
  refine m_isClerk hc (by omega) (fun c3 => br1 ?_) (fun c3 => br0 (hb c3))
  obtain ⟨c, hcc, rfl⟩ := inB_of c3 (by omega)
  refine m_takesOf (f := 715) (MU_e _ _ _ _ _ _) hS (Or.inl rfl) (by omega) ?_
  refine upto (n := n) (P := fun k => Wm 27 [some (.inr (.inr (8, x + 1))), some (.inl (nI c)), some (.inl (tkN A c 1)), some (.inl (smI (fun k => A 715 k / tkN A c 1) k)), some (.inl (nI k))] [] (MU h (x + 1) I A) 0 0) (fun k hkn ih => ?_) 0 (Nat.zero_le _)
  refine go (cut1 27) 60 27 _ _ _ _ _ ?_
  refine icg rfl ((MU_fI _ _ _ _ _).trans hn) (by omega) (by omega) (fun z => ?_) (fun z => ?_)
  · have e : k = n := by omega
    subst e
    exact hg c hcc rfl
  · refine mldk (f := 715) hS (by decide) k rfl (by show k < 14; omega) ?_
    refine And.intro (h1 c hcc) ?_
    have e := ih z
    rw [← nI_1] at e
    exact e
abbrev cbF (A : Nat → Nat → Int32) (up : Int32) : Nat → Int32 := fun k => if hasB up (nI k) then A 715 k - 1 else A 715 k
theorem m_chalkBut {up : Int32} (hS : MSh h (x + 1)) (hn : I 707 = nI n) (hn8 : n ≤ 8) (hk : kk (some (.inl (smI (cbF A up) n))) (MU h (x + 1) I A)) : CL (d + 1) mX7_chalkBut 0 0 [.inr (.inr (8, x + 1)), .inl up] (MU h (x + 1) I A) kk := by
  refine mw T_X7_chalkBut (fun Wm go => go (cut1 4) 80 0 _ _ _ _ _ ?_)
  refine upto (n := n) (P := fun k => Wm 4 [some (.inr (.inr (8, x + 1))), some (.inl up), some (.inl (smI (cbF A up) k)), some (.inl (nI k))] [] (MU h (x + 1) I A) 0 0) (fun k hkn ih => ?_) 0 (Nat.zero_le _)
  refine go (cut1 4) 60 4 _ _ _ _ _ ?_
  refine icg rfl ((MU_fI _ _ _ _ _).trans hn) (by omega) (by omega) (fun c => ?_) (fun c => ?_)
  · have e : k = n := by omega
    subst e
    exact hk
  · refine m_has (fun c3 => br1 ?_) (fun c3 => br0 ?_)
    · refine mldk (f := 715) hS (by decide) k rfl (by show k < 14; omega) ?_
      have e := ih c
      rw [show smI (cbF A up) (k + 1) = smI (cbF A up) k + (A 715 k - 1) by show _ + (if _ then _ else _) = _; rw [if_pos c3], ← nI_1] at e
      exact e
    · refine mldk (f := 715) hS (by decide) k rfl (by show k < 14; omega) ?_
      have e := ih c
      rw [show smI (cbF A up) (k + 1) = smI (cbF A up) k + A 715 k by show _ + (if _ then _ else _) = _; rw [if_neg c3], ← nI_1] at e
      exact e
end M5
