/-! ===== the reference: who, from ===== -/
theorem ix2 (a k : Nat) : nI a + (2 : Int32) * nI k = nI (a + 2 * k) := by rw [show (2 : Int32) = nI 2 from rfl, pk_mul, nI_add]
theorem ix2b (k : Nat) : (2 : Int32) * nI k = nI (2 * k) := by rw [show (2 : Int32) = nI 2 from rfl, pk_mul]
theorem inR_n {v : Int32} {a b : Nat} (hb : b < 1000) (h : inR v (nI a) (nI b)) (ha : a < 1000) : ∃ m, a ≤ m ∧ m ≤ b ∧ v = nI m := by
  have h0 : ¬ v < 0 := Int32.not_lt.mpr (Int32.le_trans ((nI_leI (a := 0) (by omega) (by omega)).mpr (Nat.zero_le a)) h.1)
  obtain ⟨m, hm, rfl⟩ := nI_of (x := v) h0
  exact ⟨m, (nI_leI (by omega) hm).mp h.1, (nI_leI hm (by omega)).mp h.2, rfl⟩
theorem isPt_of {s m : Nat} {i : Int32} (h : isPt s i (nI m)) (hm : m < 2 ^ 31) : ∃ i', i = nI i' ∧ i' + m ≤ s := by
  obtain ⟨i', hi', rfl⟩ := nI_of (x := i) (z0.mpr h.1)
  refine ⟨i', rfl, ?_⟩
  have := h.2.2
  rw [nI_toInt hi', nI_toInt hm] at this
  omega
def alB (q : Nat → Bool) : Nat → Bool
  | 0 => true
  | k + 1 => alB q k && q k
theorem alB_t {q : Nat → Bool} : ∀ {n : Nat}, alB q n = true ↔ ∀ k, k < n → q k = true
  | 0 => ⟨fun _ k hk => absurd hk (Nat.not_lt_zero k), fun _ => rfl⟩
  | n + 1 => by
    show (alB q n && q n) = true ↔ _
    rw [Bool.and_eq_true, alB_t (n := n)]
    constructor
    · intro h k hk
      by_cases e : k = n
      · rw [e]; exact h.2
      · exact h.1 k (by omega)
    · intro h
      exact ⟨fun k hk => h k (by omega), h n (by omega)⟩
def whS (q : Nat → Bool) : Nat → Int32
  | 0 => 0
  | k + 1 => whS q k ||| (if q (k + 1) = true then 1 <<< (nI (k + 1) &&& 31) else 0)
abbrev b2i (b : Bool) : Int32 := if b = true then 1 else 0
abbrev whF (A : Nat → Nat → Int32) (c r i m kind : Nat) : Bool := alB (fun w => decide (tkB (nI kind) (A 713 c) (A 703 (40 * r + (i + 2 * w))) (A 715 13) = A 703 (40 * r + (i + 2 * w + 1)))) m
section M15
variable {d x n cm at' am by' tm : Nat} {h : hp} {I : Nat → Int32} {A : Nat → Nat → Int32} {kk : Rt} {rs : Nat → Option Nat}
set_option maxRecDepth 20000 in
theorem m_who {cl rw' i many : Int32} (hS : MSh h (x + 1)) (hI : MIn I n cm at' am by' tm) (hR : RIn A rs) (hb : ¬ (inB cl cm ∧ inB rw' 8 ∧ inR many 1 8) → kk (some (.inl eBAD)) (MU h (x + 1) I A))
    (hn : ∀ c r m, c < cm → cl = nI c → r < 8 → rw' = nI r → 1 ≤ m → m ≤ 8 → many = nI m → rs r = none → kk (some (.inl (-1000010 - 1))) (MU h (x + 1) (upd I 700 1) A))
    (hp : ∀ c r m s, c < cm → cl = nI c → r < 8 → rw' = nI r → 1 ≤ m → m ≤ 8 → many = nI m → rs r = some s → ¬ isPt s i (nI (2 * m)) → kk (some (.inl (-1000010 - 2))) (MU h (x + 1) (upd I 700 2) A))
    (hl : ∀ c r m s i', c < cm → cl = nI c → r < 8 → rw' = nI r → 1 ≤ m → m ≤ 8 → many = nI m → rs r = some s → i = nI i' → i' + 2 * m ≤ s → ¬ (∀ w, w < m → inR (A 703 (40 * r + (i' + 2 * w))) 1 30) → kk (some (.inl eBAD)) (MU h (x + 1) I A))
    (hg : ∀ c r m s i', c < cm → cl = nI c → r < 8 → rw' = nI r → 1 ≤ m → m ≤ 8 → many = nI m → rs r = some s → i = nI i' → i' + 2 * m ≤ s → (∀ w, w < m → inR (A 703 (40 * r + (i' + 2 * w))) 1 30) → kk (some (.inl (whS (whF A c r i' m) 5))) (MU h (x + 1) (upd I 700 0) A)) : CL (d + 2) mX7_who 0 0 [.inr (.inr (8, x + 1)), .inl cl, .inl rw', .inl i, .inl many] (MU h (x + 1) I A) kk := by
  obtain ⟨⟨hn', hn8⟩, ⟨hc, hc4⟩, -⟩ := hI
  refine mw3 T_X7_who (fun Wm go wk => go (cut1 63) 80 0 _ _ _ _ _ ?_)
  have eR : inR rw' 0 7 ↔ inB rw' 8 := inR_B (n := 8) (by omega)
  refine m_isClerk hc (by omega) (fun c0 => br1 ?_) (fun c0 => br0 (hb (fun z => c0 z.1)))
  refine m_isRow (fun c1 => br1 ?_) (fun c1 => br0 (hb (fun z => c1 (eR.mpr z.2.1))))
  refine m_in (fun c2 => br1 ?_) (fun c2 => br0 (hb (fun z => c2 z.2.2)))
  obtain ⟨c, hcc, rfl⟩ := inB_of c0 (by omega)
  obtain ⟨r, hr, rfl⟩ := inB_of (eR.mp c1) (by omega)
  obtain ⟨m, m1, m2, rfl⟩ := inR_n (a := 1) (b := 8) (by omega) c2 (by omega)
  refine mldk (f := 701) hS (by decide) r rfl hr ?_
  refine hR.neg hr (fun z => m_meets (hn c r m hcc rfl hr rfl m1 m2 rfl z)) (fun s z1 z2 z3 => ?_)
  refine m_isPart hS hr z3 z2 (fun c3 => br1 ?_) (fun c3 => br0 (m_meets (hp c r m s hcc rfl hr rfl m1 m2 rfl z1 (fun q => c3 ?_))))
  · have c3 : isPt s i (2 * nI m) := c3
    rw [ix2b] at c3
    obtain ⟨i', rfl, hi'⟩ := isPt_of c3 (by omega)
    have hl := hl c r m s i' hcc rfl hr rfl m1 m2 rfl z1 rfl hi'
    have hg := hg c r m s i' hcc rfl hr rfl m1 m2 rfl z1 rfl hi'
    refine go (cut1 66) 60 63 _ _ _ _ _ ?_
    refine upto (n := m) (P := fun k => (∀ w, w < k → inR (A 703 (40 * r + (i' + 2 * w))) 1 30) → Wm 66 [some (.inr (.inr (8, x + 1))), some (.inl (nI c)), some (.inl (nI r)), some (.inl (nI i')), some (.inl (nI m)), some (.inl (nI k)), none, none, none] [] (MU h (x + 1) I A) 0 0) (fun k hk ih hw => ?_) 0 (Nat.zero_le _) (fun w hw => absurd hw (Nat.not_lt_zero w))
    refine go (cut2 66 102) 60 66 _ _ _ _ _ ?_
    refine icg rfl rfl (by omega) (by omega) (fun cc => ?_) (fun cc => ?_)
    · have e : k = m := by omega
      subst e
      have hg := hg hw
      clear ih hl
      refine go (cut1 108) 60 102 _ _ _ _ _ ?_
      refine upto (n := 5) (P := fun q => Wm 108 [some (.inr (.inr (8, x + 1))), some (.inl (nI c)), some (.inl (nI r)), some (.inl (nI i')), some (.inl (nI k)), some (.inl (whS (whF A c r i' k) q)), some (.inl (nI (q + 1))), none, none] [] (MU h (x + 1) I A) 0 0) (fun q hq ih => ?_) 0 (Nat.zero_le _)
      refine go (cut1 120) 60 108 _ _ _ _ _ ?_
      refine And.intro (fun z => ?_) (fun z => ?_)
      · have z : nI 5 < nI (q + 1) := z
        have z : 5 < q + 1 := Nat.not_le.mp (fun y => Int32.not_lt.mpr ((nI_leI (by omega) (by omega)).mpr y) z)
        have e : q = 5 := by omega
        subst e
        exact m_well hg
      · have z : ¬ nI 5 < nI (q + 1) := z
        have z : q + 1 ≤ 5 := (nI_leI (by omega) (by omega)).mp (Int32.not_lt.mp z)
        have ih := ih (by omega)
        refine upto (n := k) (P := fun w => Wm 120 [some (.inr (.inr (8, x + 1))), some (.inl (nI c)), some (.inl (nI r)), some (.inl (nI i')), some (.inl (nI k)), some (.inl (whS (whF A c r i' k) q)), some (.inl (nI (q + 1))), some (.inl (b2i (whF A c r i' w (q + 1)))), some (.inl (nI w))] [] (MU h (x + 1) I A) 0 0) (fun w hww ih2 => ?_) 0 (Nat.zero_le _)
        refine go (cut2 120 191) 60 120 _ _ _ _ _ ?_
        refine icg rfl rfl (by omega) (by omega) (fun c4 => ?_) (fun c4 => ?_)
        · have e : w = k := by omega
          subst e
          refine go (cut2 108 206) 60 191 _ _ _ _ _ ?_
          have fin : ∀ v : Int32, v = (if whF A c r i' w (q + 1) = true then 1 <<< (nI (q + 1) &&& 31) else 0) → Wm 206 [some (.inr (.inr (8, x + 1))), some (.inl (nI c)), some (.inl (nI r)), some (.inl (nI i')), some (.inl (nI w)), none, some (.inl (nI (q + 1))), none, none] [.inl v, .inl (whS (whF A c r i' w) q)] (MU h (x + 1) I A) 0 0 := by
            intro v hv
            refine go (cut1 108) 60 206 _ _ _ _ _ ?_
            have e := ih
            rw [← nI_1 (q + 1)] at e
            subst hv
            exact wk _ _ _ _ _ _ _ e (by repeat (first | exact ln | refine l0 ?_ | refine l1 rfl ?_))
          cases hq : whF A c r i' w (q + 1) with
          | true => 
            rw [hq] at fin
            refine br1 (wk _ _ _ _ _ _ _ (fin _ rfl) (by repeat (first | exact ln | refine l0 ?_ | refine l1 rfl ?_)))
          | false =>
            rw [hq] at fin
            refine br0 (wk _ _ _ _ _ _ _ (fin _ rfl) (by repeat (first | exact ln | refine l0 ?_ | refine l1 rfl ?_)))
        · have e2 := ih2 c4
          have hs : whF A c r i' (w + 1) (q + 1) = (whF A c r i' w (q + 1) && decide (tkB (nI (q + 1)) (A 713 c) (A 703 (40 * r + (i' + 2 * w))) (A 715 13) = A 703 (40 * r + (i' + 2 * w + 1)))) := rfl
          cases hq : whF A c r i' w (q + 1) with
          | true =>
            rw [hq] at hs
            refine br1 ?_
            refine mldk (f := 713) hS (by decide) c rfl (by show c < 4; omega) ?_
            refine m_itemAt hS hr (j := i' + 2 * w) (by omega) (ix2 i' w) ?_
            refine mldk (f := 715) hS (by decide) 13 rfl (by decide) ?_
            refine m_takesBy ?_
            refine m_itemAt hS hr (j := i' + 2 * w + 1) (by omega) (by show nI i' + 2 * nI w + 1 = _; rw [ix2]; exact nI_1 _) ?_
            refine And.intro (fun y => ?_) (fun y => ?_)
            · rw [hs, decide_eq_true y, ← nI_1 w] at e2
              exact e2
            · rw [hs, decide_eq_false y, ← nI_1 w] at e2
              exact e2
          | false =>
            rw [hq] at hs
            refine br0 ?_
            rw [hs, ← nI_1 w] at e2
            exact e2
    · refine m_itemAt hS hr (j := i' + 2 * k) (by omega) (ix2 i' k) ?_
      refine m_in (fun c4 => br1 ?_) (fun c4 => br0 (hl (fun z => c4 (z k cc))))
      have e := ih cc (fun w hw' => by
        by_cases q : w = k
        · rw [q]; exact c4
        · exact hw w (by omega))
      rw [← nI_1] at e
      exact e
  · show isPt s i (2 * nI m)
    rw [ix2b]; exact q
abbrev ilF (A : Nat → Nat → Int32) (r i b : Nat) (by2 : Int32) (k : Nat) : Bool := decide (by2 ≤ A 715 b) && alB (fun j => decide (A 703 (40 * r + (i + j)) = (if j = b then A 715 j - by2 else A 715 j))) k
theorem m_isLeft {r i b s : Nat} {by2 : Int32} (hS : MSh h (x + 1)) (hn : I 707 = nI n) (hn8 : n ≤ 8) (hr : r < 8) (hb : b < 8) (hi : i + n ≤ 40) (ht : ilF A r i b by2 n = true → kk (some (.inl 1)) (MU h (x + 1) I A)) (hf : ilF A r i b by2 n = false → kk (some (.inl 0)) (MU h (x + 1) I A)) : CL (d + 1) mX7_isLeft 0 0 [.inr (.inr (8, x + 1)), .inl (nI r), .inl (nI i), .inl (nI b), .inl by2] (MU h (x + 1) I A) kk := by
  refine mw3 T_X7_isLeft (fun Wm go wk => go (cut1 16) 60 0 _ _ _ _ _ ?_)
  have start : Wm 16 [some (.inr (.inr (8, x + 1))), some (.inl (nI r)), some (.inl (nI i)), some (.inl (nI b)), some (.inl by2), none, none] [.inl (b2i (decide (by2 ≤ A 715 b)))] (MU h (x + 1) I A) 0 0 := by
    refine go (cut1 21) 60 16 _ _ _ _ _ ?_
    have key := upto (n := n) (P := fun k => Wm 21 [some (.inr (.inr (8, x + 1))), some (.inl (nI r)), some (.inl (nI i)), some (.inl (nI b)), some (.inl by2), some (.inl (b2i (ilF A r i b by2 k))), some (.inl (nI k))] [] (MU h (x + 1) I A) 0 0) (fun k hk ih => ?_) 0 (Nat.zero_le _)
    · rw [show ilF A r i b by2 0 = decide (by2 ≤ A 715 b) from Bool.and_true _] at key
      exact key
    refine go (cut2 21 70) 60 21 _ _ _ _ _ ?_
    refine icg rfl ((MU_fI _ _ _ _ _).trans hn) (by omega) (by omega) (fun c => ?_) (fun c => ?_)
    · have e : k = n := by omega
      subst e
      cases hq : ilF A r i b by2 k with
      | true => exact And.intro (Or.inr rfl) (ht hq)
      | false => exact And.intro (Or.inl rfl) (hf hq)
    · have e2 := ih c
      have hs : ilF A r i b by2 (k + 1) = (ilF A r i b by2 k && decide (A 703 (40 * r + (i + k)) = (if k = b then A 715 k - by2 else A 715 k))) := (Bool.and_assoc _ _ _).symm
      rw [← nI_1 k] at e2
      cases hq : ilF A r i b by2 k with
      | false =>
        rw [hs, hq] at e2
        exact br0 e2
      | true =>
        rw [hs, hq] at e2
        refine br1 ?_
        refine m_itemAt hS hr (j := i + k) (by omega) (nI_add _ _) ?_
        have fin : ∀ v : Int32, v = (if k = b then A 715 k - by2 else A 715 k) → Wm 70 [some (.inr (.inr (8, x + 1))), some (.inl (nI r)), some (.inl (nI i)), some (.inl (nI b)), some (.inl by2), none, some (.inl (nI k))] [.inl v, .inl (A 703 (40 * r + (i + k)))] (MU h (x + 1) I A) 0 0 := by
          intro v hv
          refine go (cut1 21) 60 70 _ _ _ _ _ ?_
          rw [← hv] at e2
          refine And.intro (fun y => ?_) (fun y => ?_)
          · rw [decide_eq_true y] at e2
            exact wk _ _ _ _ _ _ _ e2 (by repeat (first | exact ln | refine l0 ?_ | refine l1 rfl ?_))
          · rw [decide_eq_false y] at e2
            exact wk _ _ _ _ _ _ _ e2 (by repeat (first | exact ln | refine l0 ?_ | refine l1 rfl ?_))
        refine cq (a := k) (b := b) rfl (by omega) (by omega) (fun y => ?_) (fun y => ?_)
        · refine mldk (f := 715) hS (by decide) k rfl (by show k < 14; omega) ?_
          exact wk _ _ _ _ _ _ _ (fin _ (by rw [if_pos y])) (by repeat (first | exact ln | refine l0 ?_ | refine l1 rfl ?_))
        · refine mldk (f := 715) hS (by decide) k rfl (by show k < 14; omega) ?_
          exact wk _ _ _ _ _ _ _ (fin _ (by rw [if_neg y])) (by repeat (first | exact ln | refine l0 ?_ | refine l1 rfl ?_))
  refine mldk (f := 715) hS (by decide) b rfl (by show b < 14; omega) ?_
  refine And.intro (fun c => ?_) (fun c => ?_)
  · rw [decide_eq_false (Int32.not_le.mpr c)] at start
    exact start
  · rw [decide_eq_true (Int32.not_lt.mp c)] at start
    exact start
/-- the count of what passes a test, and the first of them: by clerks, blocks, lines -/
def frN (st : Nat × Int32) (q : Bool) (v : Int32) : Nat × Int32 := if q = true then (st.1 + 1, if st.1 = 0 then v else st.2) else st
def frL (q : Nat → Bool) (v : Int32) (st : Nat × Int32) : Nat → Nat × Int32
  | 0 => st
  | l + 1 => frN (frL q v st l) (q (l + 1)) v
def frB (q : Nat → Nat → Bool) (v : Nat → Int32) (st : Nat × Int32) : Nat → Nat × Int32
  | 0 => st
  | b + 1 => frL (q b) (v b) (frB q v st b) 30
def frC (q : Nat → Nat → Nat → Bool) (v : Nat → Nat → Int32) (n : Nat) : Nat → Nat × Int32
  | 0 => (0, eNONE)
  | c + 1 => frB (q c) (v c) (frC q v n c) n
theorem frL_le (q : Nat → Bool) (v : Int32) (st : Nat × Int32) : ∀ l, (frL q v st l).1 ≤ st.1 + l
  | 0 => Nat.le_refl _
  | l + 1 => by
    have := frL_le q v st l
    show (frN _ _ _).1 ≤ _
    unfold frN
    split
    · show _ + 1 ≤ _
      omega
    · omega
theorem frB_le (q : Nat → Nat → Bool) (v : Nat → Int32) (st : Nat × Int32) : ∀ b, (frB q v st b).1 ≤ st.1 + 30 * b
  | 0 => Nat.le_refl _
  | b + 1 => by
    have := frB_le q v st b
    have := frL_le (q b) (v b) (frB q v st b) 30
    show (frL _ _ _ 30).1 ≤ _
    omega
theorem frC_le (q : Nat → Nat → Nat → Bool) (v : Nat → Nat → Int32) {n : Nat} (hn : n ≤ 8) : ∀ c, (frC q v n c).1 ≤ 240 * c
  | 0 => Nat.le_refl _
  | c + 1 => by
    have := frC_le q v hn c
    have := frB_le (q c) (v c) (frC q v n c) n
    show (frB _ _ _ n).1 ≤ _
    omega
abbrev frQ (A : Nat → Nat → Int32) (n r i : Nat) (c b l : Nat) : Bool := ilF A r i b (tkN A c (nI l)) n
abbrev frV (c b : Nat) : Int32 := 10 * nI c + nI b
set_option maxRecDepth 20000 in
theorem m_from {rw' i wh : Int32} (hS : MSh h (x + 1)) (hI : MIn I n cm at' am by' tm) (hR : RIn A rs) (hs : n = 0 → kk (some (.inl eSTATE)) (MU h (x + 1) I A)) (hb : 0 < n → ¬ (inB rw' 8 ∧ inR wh 0 1) → kk (some (.inl eBAD)) (MU h (x + 1) I A))
    (hn : ∀ r, 0 < n → r < 8 → rw' = nI r → inR wh 0 1 → rs r = none → kk (some (.inl (-1000010 - 1))) (MU h (x + 1) (upd I 700 1) A))
    (hp : ∀ r s, 0 < n → r < 8 → rw' = nI r → inR wh 0 1 → rs r = some s → ¬ isPt s i (nI n) → kk (some (.inl (-1000010 - 2))) (MU h (x + 1) (upd I 700 2) A))
    (hg : ∀ r s i', 0 < n → r < 8 → rw' = nI r → inR wh 0 1 → rs r = some s → i = nI i' → i' + n ≤ s → s ≤ 40 → kk (some (.inl (if wh = 0 then nI (frC (frQ A n r i') frV n cm).1 else (frC (frQ A n r i') frV n cm).2))) (MU h (x + 1) (upd I 700 0) A)) : CL (d + 3) mX7_from 0 0 [.inr (.inr (8, x + 1)), .inl rw', .inl i, .inl wh] (MU h (x + 1) I A) kk := by
  obtain ⟨⟨hn', hn8⟩, ⟨hc, hc4⟩, -⟩ := hI
  refine mw3 T_X7_from (fun Wm go wk => go (cut1 63) 80 0 _ _ _ _ _ ?_)
  have eR : inR rw' 0 7 ↔ inB rw' 8 := inR_B (n := 8) (by omega)
  have e7 : hfI (MU h (x + 1) I A) 707 (x + 1) = nI n := (MU_fI _ _ _ _ _).trans hn'
  refine n0 e7 hn8 hs (fun n1 => ?_)
  have hb := hb n1
  refine m_isRow (fun c1 => br1 ?_) (fun c1 => br0 (hb (fun z => c1 (eR.mpr z.1))))
  refine m_in (fun c2 => br1 ?_) (fun c2 => br0 (hb (fun z => c2 z.2)))
  obtain ⟨r, hr, rfl⟩ := inB_of (eR.mp c1) (by omega)
  refine mldk (f := 701) hS (by decide) r rfl hr ?_
  refine hR.neg hr (fun z => m_meets (hn r n1 hr rfl c2 z)) (fun s z1 z2 z3 => ?_)
  refine m_isPart hS hr z3 z2 (fun c3 => br1 ?_) (fun c3 => br0 (m_meets (hp r s n1 hr rfl c2 z1 (fun q => c3 ?_))))
  · rw [e7] at c3
    obtain ⟨i', rfl, hi'⟩ := isPt_of c3 (by omega)
    have hg := hg r s i' n1 hr rfl c2 z1 rfl hi' z2
    generalize hQ : frQ A n r i' = Q at hg
    refine go (cut1 73) 60 63 _ _ _ _ _ ?_
    refine upto (n := cm) (P := fun c => Wm 73 [some (.inr (.inr (8, x + 1))), some (.inl (nI r)), some (.inl (nI i')), some (.inl wh), some (.inl (nI (frC Q frV n c).1)), some (.inl (frC Q frV n c).2), some (.inl (nI c)), none, none] [] (MU h (x + 1) I A) 0 0) (fun c hcc ihc => ?_) 0 (Nat.zero_le _)
    refine go (cut2 85 180) 60 73 _ _ _ _ _ ?_
    have cle := frC_le Q frV hn8 c
    refine icg rfl ((MU_fI _ _ _ _ _).trans hc) (by omega) (by omega) (fun q => ?_) (fun q => ?_)
    · have e : c = cm := by omega
      subst e
      refine And.intro (fun y => ?_) (fun y => ?_)
      · have y : wh = 0 := y
        rw [if_pos y] at hg
        refine go cut0 60 180 _ _ _ _ _ ?_
        exact m_well hg
      · have y : ¬ wh = 0 := y
        rw [if_neg y] at hg
        refine go cut0 60 180 _ _ _ _ _ ?_
        exact m_well hg
    · have ihc := ihc q
      refine upto (n := n) (P := fun b => Wm 85 [some (.inr (.inr (8, x + 1))), some (.inl (nI r)), some (.inl (nI i')), some (.inl wh), some (.inl (nI (frB (Q c) (frV c) (frC Q frV n c) b).1)), some (.inl (frB (Q c) (frV c) (frC Q frV n c) b).2), some (.inl (nI c)), some (.inl (nI b)), none] [] (MU h (x + 1) I A) 0 0) (fun b hbb ihb => ?_) 0 (Nat.zero_le _)
      have ble := frB_le (Q c) (frV c) (frC Q frV n c) b
      refine go (cut2 73 97) 60 85 _ _ _ _ _ ?_
      refine icg rfl e7 (by omega) (by omega) (fun q2 => ?_) (fun q2 => ?_)
      · have e : b = n := by omega
        subst e
        rw [← nI_1 c] at ihc
        exact wk _ _ _ _ _ _ _ ihc (by repeat (first | exact ln | refine l0 ?_ | refine l1 rfl ?_))
      · have ihb := ihb q2
        refine upto (n := 30) (P := fun l => Wm 97 [some (.inr (.inr (8, x + 1))), some (.inl (nI r)), some (.inl (nI i')), some (.inl wh), some (.inl (nI (frL (Q c b) (frV c b) (frB (Q c) (frV c) (frC Q frV n c) b) l).1)), some (.inl (frL (Q c b) (frV c b) (frB (Q c) (frV c) (frC Q frV n c) b) l).2), some (.inl (nI c)), some (.inl (nI b)), some (.inl (nI (l + 1)))] [] (MU h (x + 1) I A) 0 0) (fun l hl ihl => ?_) 0 (Nat.zero_le _)
        have lle := frL_le (Q c b) (frV c b) (frB (Q c) (frV c) (frC Q frV n c) b) l
        refine go (cut3 85 97 145) 60 97 _ _ _ _ _ ?_
        refine And.intro (fun z => ?_) (fun z => ?_)
        · have z : nI 30 < nI (l + 1) := z
          have z : 30 < l + 1 := Nat.not_le.mp (fun y => Int32.not_lt.mpr ((nI_leI (by omega) (by omega)).mpr y) z)
          have e : l = 30 := by omega
          subst e
          rw [← nI_1 b] at ihb
          exact wk _ _ _ _ _ _ _ ihb (by repeat (first | exact ln | refine l0 ?_ | refine l1 rfl ?_))
        · have z : ¬ nI 30 < nI (l + 1) := z
          have z : l + 1 ≤ 30 := (nI_leI (by omega) (by omega)).mp (Int32.not_lt.mp z)
          have ihl := ihl (by omega)
          have hs : frL (Q c b) (frV c b) (frB (Q c) (frV c) (frC Q frV n c) b) (l + 1) = frN (frL (Q c b) (frV c b) (frB (Q c) (frV c) (frC Q frV n c) b) l) (Q c b (l + 1)) (frV c b) := rfl
          rw [← nI_1 (l + 1), hs] at ihl
          generalize frL (Q c b) (frV c b) (frB (Q c) (frV c) (frC Q frV n c) b) l = st at *
          refine m_takesOf rfl hS (Or.inl rfl) (by omega) ?_
          refine m_isLeft (s := s) hS hn' hn8 hr (by omega) (by omega) (fun y => br1 ?_) (fun y => br0 ?_)
          · have y : Q c b (l + 1) = true := by rw [← hQ]; exact y
            rw [y] at ihl
            have fin : ∀ v : Int32, v = (if st.1 = 0 then frV c b else st.2) → Wm 145 [some (.inr (.inr (8, x + 1))), some (.inl (nI r)), some (.inl (nI i')), some (.inl wh), some (.inl (nI st.1)), none, some (.inl (nI c)), some (.inl (nI b)), some (.inl (nI (l + 1)))] [.inl v] (MU h (x + 1) I A) 0 0 := by
              intro v hv
              refine go (cut1 97) 60 145 _ _ _ _ _ ?_
              unfold frN at ihl
              rw [if_pos rfl, ← hv] at ihl
              dsimp only at ihl
              rw [← nI_1 st.1] at ihl
              exact ihl
            refine cq (b := 0) rfl (by omega) (by omega) (fun y => ?_) (fun y => ?_)
            · exact wk _ _ _ _ _ _ _ (fin _ (by rw [if_pos y])) (by repeat (first | exact ln | refine l0 ?_ | refine l1 rfl ?_))
            · exact wk _ _ _ _ _ _ _ (fin _ (by rw [if_neg y])) (by repeat (first | exact ln | refine l0 ?_ | refine l1 rfl ?_))
          · have y : Q c b (l + 1) = false := by rw [← hQ]; exact y
            rw [y] at ihl
            exact ihl
  · rw [e7]; exact q
end M15
