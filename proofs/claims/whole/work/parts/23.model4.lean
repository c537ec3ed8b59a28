/-! ===== the reference: the calls on acts, on what stands ===== -/
abbrev eBAD : Int32 := -1000001
abbrev eSTATE : Int32 := -1000002
abbrev eFULL : Int32 := -1000003
abbrev eNONE : Int32 := -1000000
/-- what a model's state keeps from call to call: its places in range -/
def MIn (I : Nat → Int32) (n cm at' am by' tm : Nat) : Prop := (I 707 = nI n ∧ n ≤ 8) ∧ (I 709 = nI cm ∧ cm ≤ 4) ∧ (I 728 = nI at' ∧ at' < 24) ∧ (I 727 = nI am ∧ am ≤ 24) ∧ (I 704 = nI by' ∧ by' ≤ 120) ∧ (I 737 = nI tm ∧ tm ≤ 16)
abbrev remI (I : Nat → Int32) (at' : Nat) : Nat → Int32 := upd (upd I 728 (nI ((at' + 1) % 24))) 727 (leastI (I 727 + 1) 24)
abbrev remA (A : Nat → Nat → Int32) (at' : Nat) : Nat → Nat → Int32 := va_up A 729 (va_cpy (A 715) (A 729) 0 (14 * at') 14)
abbrev tkN (A : Nat → Nat → Int32) (c : Nat) (lines : Int32) : Int32 := tkB (A 714 c) (A 713 c) lines (A 715 13)
abbrev stN (A : Nat → Nat → Int32) (n : Nat) : Int32 := stP (A 712) (posB (A 715)) n
section M4
variable {d x n cm at' am by' tm : Nat} {h : hp} {I : Nat → Int32} {A : Nat → Nat → Int32} {kk : Rt}
theorem m_write {cl li bl : Int32} (hS : MSh h (x + 1)) (hI : MIn I n cm at' am by' tm)
    (hb : ¬ (inB cl cm ∧ inR li 1 30 ∧ inB bl n) → kk (some (.inl eBAD)) (MU h (x + 1) I A))
    (hs : ∀ c b, c < cm → b < n → cl = nI c → bl = nI b → inR li 1 30 → A 715 b < tkN A c li → kk (some (.inl eSTATE)) (MU h (x + 1) I A))
    (hg : ∀ c b, c < cm → b < n → cl = nI c → bl = nI b → inR li 1 30 → ¬ A 715 b < tkN A c li → kk (some (.inl (tkN A c li))) (MU h (x + 1) (remI I at') (va_up (remA A at') 715 (wrF (A 715) b c (tkN A c li) li)))) : CL (d + 4) mX7_write 0 0 [.inr (.inr (8, x + 1)), .inl cl, .inl li, .inl bl] (MU h (x + 1) I A) kk := by
  obtain ⟨⟨hn, hn8⟩, ⟨hc, hc4⟩, ⟨ha, ha24⟩, -⟩ := hI
  refine mw T_X7_write (fun Wm go => go cut0 80 0 _ _ _ _ _ ?_)
  refine m_isClerk hc (by omega) (fun c1 => br1 ?_) (fun c1 => br0 (hb (fun z => c1 z.1)))
  refine m_in (fun c2 => br1 ?_) (fun c2 => br0 (hb (fun z => c2 z.2.1)))
  refine m_isBlock hn hn8 (fun c3 => br1 ?_) (fun c3 => br0 (hb (fun z => c3 z.2.2)))
  obtain ⟨c, hcc, rfl⟩ := inB_of c1 (by omega)
  obtain ⟨b, hbb, rfl⟩ := inB_of c3 (by omega)
  refine m_takesOf (f := 715) (MU_e _ _ _ _ _ _) hS (Or.inl rfl) (by omega) ?_
  refine mldk (f := 715) hS (by decide) b rfl (by show b < 14; omega) ?_
  refine And.intro (fun c4 => ?_) (fun c4 => hs c b hcc hbb rfl rfl c2 (Int32.not_le.mp c4))
  have k := hg c b hcc hbb rfl rfl c2 (Int32.not_lt.mpr c4)
  refine m_remember hS ha ha24 ?_
  exact m_writes (f := 715) (MU_e _ _ _ _ _ _) hS (Or.inl rfl) (by omega) (by omega) (fun z => absurd z (Int32.not_lt.mpr c4)) (fun _ => k)
theorem m_rub {li bl : Int32} (hS : MSh h (x + 1)) (hI : MIn I n cm at' am by' tm)
    (hb : ¬ (inR li 1 60 ∧ inB bl n) → kk (some (.inl eBAD)) (MU h (x + 1) I A))
    (hs : ∀ b, b < n → bl = nI b → inR li 1 60 → A 715 12 < li → kk (some (.inl eSTATE)) (MU h (x + 1) I A))
    (hg : ∀ b, b < n → bl = nI b → inR li 1 60 → ¬ A 715 12 < li → kk (some (.inl (leastI 30 (A 715 b + li * I 711 / 10)))) (MU h (x + 1) (remI I at') (va_up (remA A at') 715 (upd (upd (A 715) 12 (A 715 12 - li)) b (leastI 30 (A 715 b + li * I 711 / 10)))))) : CL (d + 2) mX7_rub 0 0 [.inr (.inr (8, x + 1)), .inl li, .inl bl] (MU h (x + 1) I A) kk := by
  obtain ⟨⟨hn, hn8⟩, ⟨hc, hc4⟩, ⟨ha, ha24⟩, -⟩ := hI
  refine mw T_X7_rub (fun Wm go => go cut0 80 0 _ _ _ _ _ ?_)
  refine m_in (fun c2 => br1 ?_) (fun c2 => br0 (hb (fun z => c2 z.1)))
  refine m_isBlock hn hn8 (fun c3 => br1 ?_) (fun c3 => br0 (hb (fun z => c3 z.2)))
  obtain ⟨b, hbb, rfl⟩ := inB_of c3 (by omega)
  refine mldk (f := 715) hS (by decide) 12 rfl (by decide) ?_
  refine And.intro (fun c4 => ?_) (fun c4 => hs b hbb rfl c2 (Int32.not_le.mp c4))
  have k := hg b hbb rfl c2 (Int32.not_lt.mpr c4)
  have hb12 : ¬ b = 12 := by omega
  refine m_remember hS ha ha24 ?_
  refine mldk (f := 715) hS (by decide) 12 rfl (by decide) ?_
  refine mstk (f := 715) hS (by decide) 12 rfl (by decide) ?_
  refine mldk (f := 715) hS (by decide) b rfl (by show b < 14; omega) ?_
  refine And.intro (by decide) ?_
  refine m_least ?_
  refine mstk (f := 715) hS (by decide) b rfl (by show b < 14; omega) ?_
  refine mldk (f := 715) hS (by decide) b rfl (by show b < 14; omega) ?_
  have e1 : upd (A 715) 12 (A 715 12 - li) b = A 715 b := if_neg hb12
  refine kki k ?_ ?_
  · show upd _ b (leastI 30 (upd (A 715) 12 (A 715 12 - li) b + li * hfI (MU h (x + 1) (remI I at') _) 711 (x + 1) / 10)) b = _
    rw [MU_fI, e1]
    exact if_pos rfl
  · show MU h (x + 1) _ (va_up (va_up (remA A at') 715 _) 715 (upd (upd (A 715) 12 (A 715 12 - li)) b (leastI 30 (upd (A 715) 12 (A 715 12 - li) b + li * hfI (MU h (x + 1) (remI I at') _) 711 (x + 1) / 10)))) = _
    rw [MU_fI, e1, bx_uu]
    rfl
theorem n0 {n : Nat} {v : Int32} (hv : v = nI n) (hn : n ≤ 8) {X Y : Prop} (a : n = 0 → X) (b : 0 < n → Y) : (v = 0 → X) ∧ (¬ v = 0 → Y) := by
  subst hv
  refine ⟨fun c => a ?_, fun c => b ?_⟩
  · exact (nI_eq (by omega) (by omega)).mp (show nI n = nI 0 from c)
  · rcases Nat.eq_zero_or_pos n with e | e
    · exact absurd (by rw [e]; rfl) c
    · exact e
theorem m_rain (hS : MSh h (x + 1)) (hI : MIn I n cm at' am by' tm) (hs : n = 0 → kk (some (.inl eSTATE)) (MU h (x + 1) I A))
    (hg : 0 < n → kk (some (.inl (stP (A 712) (posB (rainF (A 715) (A 712) (I 710) n n)) n))) (MU h (x + 1) (remI I at') (va_up (remA A at') 715 (rainF (A 715) (A 712) (I 710) n n)))) : CL (d + 3) mX7_rain 0 0 [.inr (.inr (8, x + 1))] (MU h (x + 1) I A) kk := by
  obtain ⟨⟨hn, hn8⟩, ⟨hc, hc4⟩, ⟨ha, ha24⟩, -⟩ := hI
  refine mw T_X7_rain (fun Wm go => go cut0 80 0 _ _ _ _ _ ?_)
  refine n0 ((MU_fI _ _ _ _ _).trans hn) hn8 (fun c => hs c) (fun c => ?_)
  refine m_remember hS ha ha24 ?_
  refine m_rainsOn715 (MU_e _ _ _ _ _ _) hS (I := remI I at') hn hn8 ?_
  exact m_standing (f := 715) (MU_e _ _ _ _ _ _) hS (I := remI I at') hn hn8 (Or.inl rfl) (hg c)
/-- k days, from at' on -/
def dayI (I : Nat → Int32) (at' : Nat) : Nat → (Nat → Int32)
  | 0 => I
  | k + 1 => remI (dayI I at' k) ((at' + k) % 24)
def dayA (A : Nat → Nat → Int32) (at' : Nat) : Nat → (Nat → Nat → Int32)
  | 0 => A
  | k + 1 => va_up (remA (dayA A at' k) ((at' + k) % 24)) 715 (upd (dayA A at' k 715) 13 (dayA A at' k 715 13 + 1))
theorem dayI_at {I : Nat → Int32} {at' : Nat} (h : I 728 = nI at') (h24 : at' < 24) (k : Nat) : dayI I at' k 728 = nI ((at' + k) % 24) := by
  cases k with
  | zero => rw [Nat.add_zero, Nat.mod_eq_of_lt h24]; exact h
  | succ k =>
    show nI (((at' + k) % 24 + 1) % 24) = _
    congr 1
    omega
theorem dayI_o {I : Nat → Int32} {at' q : Nat} (h1 : q ≠ 728) (h2 : q ≠ 727) (k : Nat) : dayI I at' k q = I q := by
  induction k with
  | zero => rfl
  | succ k ih =>
    show upd (upd _ 728 _) 727 _ q = _
    unfold upd
    rw [if_neg h2, if_neg h1]
    exact ih
theorem m_days {nd : Int32} (hS : MSh h (x + 1)) (hI : MIn I n cm at' am by' tm) (hs : n = 0 → kk (some (.inl eSTATE)) (MU h (x + 1) I A)) (hb : 0 < n → ¬ inR nd 1 24 → kk (some (.inl eBAD)) (MU h (x + 1) I A)) (hf : 0 < n → inR nd 1 24 → 999 < A 715 13 + nd → kk (some (.inl eFULL)) (MU h (x + 1) I A))
    (hg : ∀ k, 0 < n → nd = nI k → 1 ≤ k → k ≤ 24 → ¬ 999 < A 715 13 + nd → kk (some (.inl (dayA A at' k 715 13))) (MU h (x + 1) (dayI I at' k) (dayA A at' k))) : CL (d + 2) mX7_days 0 0 [.inr (.inr (8, x + 1)), .inl nd] (MU h (x + 1) I A) kk := by
  obtain ⟨⟨hn, hn8⟩, ⟨hc, hc4⟩, ⟨ha, ha24⟩, -⟩ := hI
  refine mw T_X7_days (fun Wm go => go (cut1 43) 80 0 _ _ _ _ _ ?_)
  refine n0 ((MU_fI _ _ _ _ _).trans hn) hn8 (fun c => hs c) (fun c => ?_)
  refine m_in (fun c2 => br1 ?_) (fun c2 => br0 (hb c c2))
  refine mldk (f := 715) hS (by decide) 13 rfl (by decide) ?_
  refine And.intro (fun c3 => ?_) (fun c3 => hf c c2 (Int32.not_le.mp c3))
  obtain ⟨k, hk24, rfl⟩ := nI_of2 (n := 24) (by decide) (fun z => Int32.not_lt.mpr (Int32.le_trans (by decide) c2.1) z) c2.2
  have hk1 : 1 ≤ k := (nI_leI (a := 1) (by omega) (by omega)).mp c2.1
  have hgk := hg k c rfl hk1 hk24 (Int32.not_lt.mpr c3)
  refine upto (n := k) (P := fun j => Wm 43 [some (.inr (.inr (8, x + 1))), some (.inl (nI k)), some (.inl (nI j))] [] (MU h (x + 1) (dayI I at' j) (dayA A at' j)) 0 0) (fun j hj ih => ?_) 0 (Nat.zero_le _)
  refine go (cut1 43) 80 43 _ _ _ _ _ ?_
  refine icg rfl rfl (by omega) (by omega) (fun z => ?_) (fun z => ?_)
  · have e : j = k := by omega
    subst e
    exact mldk (f := 715) hS (by decide) 13 rfl (by decide) hgk
  · refine m_remember hS (dayI_at ha ha24 j) (Nat.mod_lt _ (by omega)) ?_
    refine mldk (f := 715) hS (by decide) 13 rfl (by decide) ?_
    refine mstk (f := 715) hS (by decide) 13 rfl (by decide) ?_
    have e := ih z
    rw [← nI_1] at e
    exact e
theorem m_block {bl wh : Int32} (hS : MSh h (x + 1)) (hI : MIn I n cm at' am by' tm) (hb : ¬ (inB bl n ∧ inR wh 0 3) → kk (some (.inl eBAD)) (MU h (x + 1) I A))
    (hg : ∀ b, b < n → bl = nI b → inR wh 0 3 → kk (some (.inl (if wh = 0 then A 715 b else if wh = 1 then (stN A n >>> (nI b &&& 31)) &&& 1 else if wh = 2 then A 712 b else mkS (fun k => decide (hasB (A 712 k) (nI b))) n))) (MU h (x + 1) I A)) : CL (d + 2) mX7_block 0 0 [.inr (.inr (8, x + 1)), .inl bl, .inl wh] (MU h (x + 1) I A) kk := by
  obtain ⟨⟨hn, hn8⟩, ⟨hc, hc4⟩, ⟨ha, ha24⟩, -⟩ := hI
  refine mw T_X7_block (fun Wm go => go cut0 80 0 _ _ _ _ _ ?_)
  refine m_isBlock hn hn8 (fun c3 => br1 ?_) (fun c3 => br0 (hb (fun z => c3 z.1)))
  refine m_in (fun c2 => br1 ?_) (fun c2 => br0 (hb (fun z => c2 z.2)))
  obtain ⟨b, hbb, rfl⟩ := inB_of c3 (by omega)
  have k := hg b hbb rfl c2
  refine And.intro (fun w => ?_) (fun w => And.intro (fun w2 => ?_) (fun w2 => And.intro (fun w3 => ?_) (fun w3 => ?_)))
  · rw [if_pos w] at k
    exact mldk (f := 715) hS (by decide) b rfl (by show b < 14; omega) k
  · rw [if_neg w, if_pos w2] at k
    exact m_standing (f := 715) (MU_e _ _ _ _ _ _) hS hn hn8 (Or.inl rfl) k
  · rw [if_neg w, if_neg w2, if_pos w3] at k
    exact mldk (f := 712) hS (by decide) b rfl (by show b < 8; omega) k
  · rw [if_neg w, if_neg w2, if_neg w3] at k
    exact m_restingOn hS hn hn8 k
theorem m_clerk {cl wh : Int32} (hS : MSh h (x + 1)) (hI : MIn I n cm at' am by' tm) (hb : ¬ (inB cl cm ∧ inR wh 0 1) → kk (some (.inl eBAD)) (MU h (x + 1) I A))
    (hg : ∀ c, c < cm → cl = nI c → inR wh 0 1 → kk (some (.inl (if wh = 0 then A 713 c else A 715 (8 + c)))) (MU h (x + 1) I A)) : CL (d + 2) mX7_clerk 0 0 [.inr (.inr (8, x + 1)), .inl cl, .inl wh] (MU h (x + 1) I A) kk := by
  obtain ⟨⟨hn, hn8⟩, ⟨hc, hc4⟩, ⟨ha, ha24⟩, -⟩ := hI
  refine mw T_X7_clerk (fun Wm go => go cut0 80 0 _ _ _ _ _ ?_)
  refine m_isClerk hc (by omega) (fun c3 => br1 ?_) (fun c3 => br0 (hb (fun z => c3 z.1)))
  refine m_in (fun c2 => br1 ?_) (fun c2 => br0 (hb (fun z => c2 z.2)))
  obtain ⟨c, hcc, rfl⟩ := inB_of c3 (by omega)
  have k := hg c hcc rfl c2
  refine And.intro (fun w => ?_) (fun w => ?_)
  · rw [if_pos w] at k
    exact mldk (f := 713) hS (by decide) c rfl (by show c < 4; omega) k
  · rw [if_neg w] at k
    exact mldk (f := 715) hS (by decide) (8 + c) (nI_add 8 c) (by show 8 + c < 14; omega) k
theorem m_takes {cl li : Int32} (hS : MSh h (x + 1)) (hI : MIn I n cm at' am by' tm) (hb : ¬ (inB cl cm ∧ inR li 1 30) → kk (some (.inl eBAD)) (MU h (x + 1) I A))
    (hg : ∀ c, c < cm → cl = nI c → inR li 1 30 → kk (some (.inl (tkN A c li))) (MU h (x + 1) I A)) : CL (d + 3) mX7_takes 0 0 [.inr (.inr (8, x + 1)), .inl cl, .inl li] (MU h (x + 1) I A) kk := by
  obtain ⟨⟨hn, hn8⟩, ⟨hc, hc4⟩, ⟨ha, ha24⟩, -⟩ := hI
  refine mw T_X7_takes (fun Wm go => go cut0 80 0 _ _ _ _ _ ?_)
  refine m_isClerk hc (by omega) (fun c3 => br1 ?_) (fun c3 => br0 (hb (fun z => c3 z.1)))
  refine m_in (fun c2 => br1 ?_) (fun c2 => br0 (hb (fun z => c2 z.2)))
  obtain ⟨c, hcc, rfl⟩ := inB_of c3 (by omega)
  exact m_takesOf (f := 715) (MU_e _ _ _ _ _ _) hS (Or.inl rfl) (by omega) (hg c hcc rfl c2)
/-- sums -/
def smI (g : Nat → Int32) : Nat → Int32
  | 0 => 0
  | k + 1 => smI g k + g k
theorem m_allLines (hS : MSh h (x + 1)) (hc : I 709 = nI cm) (hc4 : cm ≤ 4) (hk : kk (some (.inl (smI (fun k => A 715 (8 + k)) cm))) (MU h (x + 1) I A)) : CL d mX7_allLines 0 0 [.inr (.inr (8, x + 1))] (MU h (x + 1) I A) kk := by
  refine mw T_X7_allLines (fun Wm go => go (cut1 4) 80 0 _ _ _ _ _ ?_)
  refine upto (n := cm) (P := fun k => Wm 4 [some (.inr (.inr (8, x + 1))), some (.inl (smI (fun k => A 715 (8 + k)) k)), some (.inl (nI k))] [] (MU h (x + 1) I A) 0 0) (fun k hkn ih => ?_) 0 (Nat.zero_le _)
  refine go (cut1 4) 60 4 _ _ _ _ _ ?_
  refine icg rfl ((MU_fI _ _ _ _ _).trans hc) (by omega) (by omega) (fun c => ?_) (fun c => ?_)
  · have e : k = cm := by omega
    subst e
    exact hk
  · refine mldk (f := 715) hS (by decide) (8 + k) (nI_add 8 k) (by show 8 + k < 14; omega) ?_
    have e := ih c
    rw [← nI_1] at e
    exact e
theorem m_allChalk (hS : MSh h (x + 1)) (hn : I 707 = nI n) (hn8 : n ≤ 8) (hk : kk (some (.inl (smI (A 715) n))) (MU h (x + 1) I A)) : CL d mX7_allChalk 0 0 [.inr (.inr (8, x + 1))] (MU h (x + 1) I A) kk := by
  refine mw T_X7_allChalk (fun Wm go => go (cut1 4) 80 0 _ _ _ _ _ ?_)
  refine upto (n := n) (P := fun k => Wm 4 [some (.inr (.inr (8, x + 1))), some (.inl (smI (A 715) k)), some (.inl (nI k))] [] (MU h (x + 1) I A) 0 0) (fun k hkn ih => ?_) 0 (Nat.zero_le _)
  refine go (cut1 4) 60 4 _ _ _ _ _ ?_
  refine icg rfl ((MU_fI _ _ _ _ _).trans hn) (by omega) (by omega) (fun c => ?_) (fun c => ?_)
  · have e : k = n := by omega
    subst e
    exact hk
  · refine mldk (f := 715) hS (by decide) k rfl (by show k < 14; omega) ?_
    have e := ih c
    rw [← nI_1] at e
    exact e
def fallF (A : Nat → Nat → Int32) (n : Nat) : Int32 := mkS (fun k => posB (A 715) k && !decide (hasB (stN A n) (nI k))) n
theorem m_stand {wh : Int32} (hS : MSh h (x + 1)) (hI : MIn I n cm at' am by' tm) (hs : n = 0 → kk (some (.inl eSTATE)) (MU h (x + 1) I A))
    (hg : 0 < n → kk (some (.inl (if wh = 0 then stN A n else if wh = 1 then fallF A n else if wh = 2 then smI (A 715) n else if wh = 3 then A 715 12 else if wh = 4 then smI (fun k => A 715 (8 + k)) cm else eBAD))) (MU h (x + 1) I A)) : CL (d + 2) mX7_stand 0 0 [.inr (.inr (8, x + 1)), .inl wh] (MU h (x + 1) I A) kk := by
  obtain ⟨⟨hn, hn8⟩, ⟨hc, hc4⟩, ⟨ha, ha24⟩, -⟩ := hI
  refine mw T_X7_stand (fun Wm go => go cut0 80 0 _ _ _ _ _ ?_)
  refine n0 ((MU_fI _ _ _ _ _).trans hn) hn8 (fun c => hs c) (fun c => ?_)
  have k := hg c
  refine And.intro (fun w => ?_) (fun w => And.intro (fun w2 => ?_) (fun w2 => And.intro (fun w3 => ?_) (fun w3 => And.intro (fun w4 => ?_) (fun w4 => And.intro (fun w5 => ?_) (fun w5 => ?_)))))
  · rw [if_pos w] at k
    exact m_standing (f := 715) (MU_e _ _ _ _ _ _) hS hn hn8 (Or.inl rfl) k
  · rw [if_neg w, if_pos w2] at k
    exact m_fallen (f := 715) (MU_e _ _ _ _ _ _) hS hn hn8 (Or.inl rfl) k
  · rw [if_neg w, if_neg w2, if_pos w3] at k
    exact m_allChalk hS hn hn8 k
  · rw [if_neg w, if_neg w2, if_neg w3, if_pos w4] at k
    exact mldk (f := 715) hS (by decide) 12 rfl (by decide) k
  · rw [if_neg w, if_neg w2, if_neg w3, if_neg w4, if_pos w5] at k
    exact m_allLines hS hc hc4 k
  · rw [if_neg w, if_neg w2, if_neg w3, if_neg w4, if_neg w5] at k
    exact k
end M4
