/-! ===== the reference: rows, the tape, undoing, images ===== -/
theorem ix40 (a k : Nat) : (40 : Int32) * nI a + nI k = nI (40 * a + k) := by rw [show (40 : Int32) = nI 40 from rfl, pk_mul, nI_add]
/-- what the rows are: their sizes -/
def RIn (A : Nat → Nat → Int32) (rs : Nat → Option Nat) : Prop := ∀ r, r < 8 → (rs r = none ∧ A 701 r = -1) ∨ ∃ s, rs r = some s ∧ s ≤ 40 ∧ A 701 r = nI s
theorem RIn.neg {A : Nat → Nat → Int32} {rs : Nat → Option Nat} (h : RIn A rs) {r : Nat} (hr : r < 8) {X Y : Prop} (a : rs r = none → X) (b : ∀ s, rs r = some s → s ≤ 40 → A 701 r = nI s → Y) : (0 ≤ A 701 r → Y) ∧ (¬ 0 ≤ A 701 r → X) := by
  rcases h r hr with ⟨h1, h2⟩ | ⟨s, h1, h2, h3⟩
  · rw [h2]
    exact ⟨fun z => absurd z (by decide), fun _ => a h1⟩
  · refine ⟨fun _ => b s h1 h2 h3, fun z => absurd ?_ z⟩
    rw [h3]
    exact nI_pos' (by omega)
theorem RIn.neg2 {A : Nat → Nat → Int32} {rs : Nat → Option Nat} (h : RIn A rs) {r : Nat} (hr : r < 8) {X Y : Prop} (a : rs r = none → X) (b : ∀ s, rs r = some s → s ≤ 40 → A 701 r = nI s → Y) : (A 701 r < 0 → X) ∧ (¬ A 701 r < 0 → Y) := by
  have := h.neg hr a b
  exact ⟨fun z => this.2 (Int32.not_le.mpr z), fun z => this.1 (Int32.not_lt.mp z)⟩
/-- n items from i on are there -/
abbrev isPt (s : Nat) (i k : Int32) : Prop := 0 ≤ i.toInt ∧ 0 ≤ k.toInt ∧ i.toInt + k.toInt ≤ (s : Int)
theorem z0 {v : Int32} : ¬ v < 0 ↔ 0 ≤ v.toInt := by
  rw [Int32.lt_iff_toInt_lt]
  show ¬ v.toInt < 0 ↔ _
  omega
section M9
variable {d x n cm at' am by' tm : Nat} {h : hp} {I : Nat → Int32} {A : Nat → Nat → Int32} {kk : Rt} {rs : Nat → Option Nat}
theorem m_isPart {r s : Nat} {i k : Int32} (hS : MSh h (x + 1)) (hr : r < 8) (hs : A 701 r = nI s) (hs40 : s ≤ 40) (ht : isPt s i k → kk (some (.inl 1)) (MU h (x + 1) I A)) (hf : ¬ isPt s i k → kk (some (.inl 0)) (MU h (x + 1) I A)) : CL d mX7_isPart 0 0 [.inr (.inr (8, x + 1)), .inl (nI r), .inl i, .inl k] (MU h (x + 1) I A) kk := by
  refine mw T_X7_isPart (fun Wm go => go cut0 80 0 _ _ _ _ _ ?_)
  have e : (nI s).toInt = s := nI_toInt (by omega)
  refine And.intro (fun z => And.intro (Or.inl rfl) (hf ?_)) (fun z => And.intro (fun z2 => And.intro (Or.inl rfl) (hf ?_)) (fun z2 => ?_))
  · intro q; exact z0.mpr q.1 z
  · intro q; exact z0.mpr q.2.1 z2
  · have y1 := z0.mp z
    have y2 := z0.mp z2
    refine mldk (f := 701) hS (by decide) r rfl hr ?_
    refine And.intro (fun z3 => And.intro (Or.inl rfl) (hf ?_)) (fun z3 => ?_)
    · have z3 : A 701 r < i := z3
      rw [hs, Int32.lt_iff_toInt_lt, e] at z3
      intro q; omega
    · have z3 : ¬ A 701 r < i := z3
      rw [hs, Int32.lt_iff_toInt_lt, e] at z3
      refine mldk (f := 701) hS (by decide) r rfl hr ?_
      obtain ⟨j, hj, ej⟩ : ∃ j, j ≤ s ∧ i = nI j := by
        obtain ⟨j, hj, ej⟩ := nI_of (x := i) z
        refine ⟨j, ?_, ej⟩
        rw [ej, nI_toInt hj] at z3
        omega
      subst ej
      have e2 : (A 701 r - nI j).toInt = (s : Int) - j := by rw [hs]; exact pk_sub_toInt (by omega) (by omega)
      have e3 : (nI j).toInt = j := nI_toInt (by omega)
      refine And.intro (fun z4 => And.intro (Or.inl rfl) (hf ?_)) (fun z4 => And.intro (Or.inr rfl) (ht ?_))
      · have z4 : A 701 r - nI j < k := z4
        rw [Int32.lt_iff_toInt_lt, e2] at z4
        intro q; omega
      · have z4 : ¬ A 701 r - nI j < k := z4
        rw [Int32.lt_iff_toInt_lt, e2] at z4
        exact ⟨y1, y2, by omega⟩
theorem m_itemAt {r j : Nat} {i : Int32} (hS : MSh h (x + 1)) (hr : r < 8) (hj : j < 40) (hi : i = nI j) (hk : kk (some (.inl (A 703 (40 * r + j)))) (MU h (x + 1) I A)) : CL d mX7_itemAt 0 0 [.inr (.inr (8, x + 1)), .inl (nI r), .inl i] (MU h (x + 1) I A) kk := by
  subst hi
  refine mw T_X7_itemAt (fun Wm go => go cut0 80 0 _ _ _ _ _ ?_)
  exact mldk (f := 703) hS (by decide) (40 * r + j) (ix40 r j) (by show _ < 320; omega) hk
theorem m_row {rw' ln nn : Int32} (hS : MSh h (x + 1)) (hb : ¬ (inB rw' 8 ∧ inR ln 0 2 ∧ ¬ 40 < nn) → kk (some (.inl eBAD)) (MU h (x + 1) I A)) (hz : inB rw' 8 → inR ln 0 2 → nn < 0 → kk (some (.inl (-1000010 - 4))) (MU h (x + 1) (upd I 700 4) A))
    (hg : ∀ r s, r < 8 → rw' = nI r → inR ln 0 2 → s ≤ 40 → nn = nI s → kk (some (.inl (nI s))) (MU h (x + 1) (upd I 700 0) (va_up (va_up (va_up A 701 (upd (A 701) r (nI s))) 702 (upd (A 702) r ln)) 703 (va_cpy (fun _ => 0) (A 703) 0 (40 * r) 40)))) : CL (d + 2) mX7_row 0 0 [.inr (.inr (8, x + 1)), .inl rw', .inl ln, .inl nn] (MU h (x + 1) I A) kk := by
  refine mw T_X7_row (fun Wm go => go (cut1 52) 80 0 _ _ _ _ _ ?_)
  have eR : inR rw' 0 7 ↔ inB rw' 8 := inR_B (n := 8) (by omega)
  refine m_isRow (fun c1 => br1 ?_) (fun c1 => br0 (hb (fun z => c1 (eR.mpr z.1))))
  refine m_in (fun c2 => br1 ?_) (fun c2 => br0 (hb (fun z => c2 z.2.1)))
  refine And.intro (fun c3 => ?_) (fun c3 => hb (fun z => z.2.2 (Int32.not_le.mp c3)))
  refine And.intro (fun c4 => ?_) (fun c4 => m_meets (hz (eR.mp c1) c2 (Int32.not_le.mp c4)))
  obtain ⟨r, hr, rfl⟩ := inB_of (eR.mp c1) (by omega)
  obtain ⟨s, hs, rfl⟩ := nI_of2 (n := 40) (by decide) (Int32.not_lt.mpr c4) c3
  refine mstk (f := 701) hS (by decide) r rfl hr ?_
  refine mstk (f := 702) hS (by decide) r rfl hr ?_
  generalize hB : va_up (va_up A 701 (upd (A 701) r (nI s))) 702 (upd (va_up A 701 (upd (A 701) r (nI s)) 702) r ln) = B
  have hB3 : B 703 = A 703 := by rw [← hB]; rfl
  have start := upto (n := 40) (P := fun k => Wm 52 [some (.inr (.inr (8, x + 1))), some (.inl (nI r)), some (.inl ln), some (.inl (nI s)), some (.inl (nI k))] [] (MU h (x + 1) I (va_up B 703 (va_cpy (fun _ => 0) (A 703) 0 (40 * r) k))) 0 0) (fun k hkn ih => ?_) 0 (Nat.zero_le _)
  · rw [cpy_0, ← hB3, up_id] at start
    exact start
  refine go (cut1 52) 60 52 _ _ _ _ _ ?_
  refine icg rfl (show (40 : Int32) = nI 40 from rfl) (by omega) (by omega) (fun c => ?_) (fun c => ?_)
  · have e : k = 40 := by omega
    subst e
    have q := hg r s hr rfl c2 hs rfl
    subst hB
    exact m_well q
  · refine mstk (f := 703) hS (by decide) (40 * r + k) (ix40 r k) (by show _ < 320; omega) ?_
    have e := ih c
    rw [← cpy_s, ← bx_uu B 703 (va_cpy (fun _ => 0) (A 703) 0 (40 * r) k), ← nI_1] at e
    exact e
theorem m_set {rw' i v : Int32} (hS : MSh h (x + 1)) (hR : RIn A rs) (hb : ¬ inB rw' 8 → kk (some (.inl eBAD)) (MU h (x + 1) I A)) (hn : ∀ r, r < 8 → rw' = nI r → rs r = none → kk (some (.inl (-1000010 - 1))) (MU h (x + 1) (upd I 700 1) A))
    (hp : ∀ r s, r < 8 → rw' = nI r → rs r = some s → ¬ inB i s → kk (some (.inl (-1000010 - 2))) (MU h (x + 1) (upd I 700 2) A))
    (hg : ∀ r s j, r < 8 → rw' = nI r → rs r = some s → j < s → i = nI j → kk (some (.inl (cutI (A 702 r) v))) (MU h (x + 1) (upd I 700 0) (va_up A 703 (upd (A 703) (40 * r + j) (cutI (A 702 r) v))))) : CL (d + 2) mX7_set 0 0 [.inr (.inr (8, x + 1)), .inl rw', .inl i, .inl v] (MU h (x + 1) I A) kk := by
  refine mw T_X7_set (fun Wm go => go cut0 80 0 _ _ _ _ _ ?_)
  have eR : inR rw' 0 7 ↔ inB rw' 8 := inR_B (n := 8) (by omega)
  refine m_isRow (fun c1 => br1 ?_) (fun c1 => br0 (hb (fun z => c1 (eR.mpr z))))
  obtain ⟨r, hr, rfl⟩ := inB_of (eR.mp c1) (by omega)
  refine mldk (f := 701) hS (by decide) r rfl hr ?_
  refine hR.neg hr (fun z => m_meets (hn r hr rfl z)) (fun s z1 z2 z3 => ?_)
  refine mldk (f := 701) hS (by decide) r rfl hr ?_
  refine m_in (fun c => br1 ?_) (fun c => br0 (m_meets (hp r s hr rfl z1 ?_)))
  · have c : inR i 0 (A 701 r - 1) := c
    rw [z3] at c
    obtain ⟨j, hj, rfl⟩ := inB_of ((inR_B (by omega)).mp c) (by omega)
    refine mldk (f := 702) hS (by decide) r rfl hr ?_
    refine m_cut ?_
    refine mstk (f := 703) hS (by decide) (40 * r + j) (ix40 r j) (by show _ < 320; omega) ?_
    refine mldk (f := 703) hS (by decide) (40 * r + j) (ix40 r j) (by show _ < 320; omega) ?_
    refine m_well (kki (hg r s j hr rfl z1 hj rfl) ?_ rfl)
    exact if_pos rfl
  · have c : ¬ inR i 0 (A 701 r - 1) := c
    rw [z3] at c
    exact fun q => c ((inR_B (by omega)).mpr q)
theorem m_drop {rw' : Int32} (hS : MSh h (x + 1)) (hR : RIn A rs) (hb : ¬ inB rw' 8 → kk (some (.inl eBAD)) (MU h (x + 1) I A)) (hn : ∀ r, r < 8 → rw' = nI r → rs r = none → kk (some (.inl (-1000010 - 1))) (MU h (x + 1) (upd I 700 1) A))
    (hg : ∀ r s, r < 8 → rw' = nI r → rs r = some s → kk (some (.inl (nI s))) (MU h (x + 1) (upd I 700 0) (va_up A 701 (upd (A 701) r (-1))))) : CL (d + 2) mX7_drop 0 0 [.inr (.inr (8, x + 1)), .inl rw'] (MU h (x + 1) I A) kk := by
  refine mw T_X7_drop (fun Wm go => go cut0 80 0 _ _ _ _ _ ?_)
  have eR : inR rw' 0 7 ↔ inB rw' 8 := inR_B (n := 8) (by omega)
  refine m_isRow (fun c1 => br1 ?_) (fun c1 => br0 (hb (fun z => c1 (eR.mpr z))))
  obtain ⟨r, hr, rfl⟩ := inB_of (eR.mp c1) (by omega)
  refine mldk (f := 701) hS (by decide) r rfl hr ?_
  refine hR.neg hr (fun z => m_meets (hn r hr rfl z)) (fun s z1 z2 z3 => ?_)
  refine mldk (f := 701) hS (by decide) r rfl hr ?_
  refine mstk (f := 701) hS (by decide) r rfl hr ?_
  exact m_well (kki (hg r s hr rfl z1) z3 rfl)
/-- the copy of n items, upwards and downwards -/
theorem cpy_in {f : Nat → Int32} {sp dp k n : Nat} (hk : k < n) (h : sp + k < dp ∨ dp + k ≤ sp + k) : va_cpy f f sp dp k (sp + k) = f (sp + k) := by
  unfold va_cpy
  by_cases c : dp ≤ sp + k ∧ sp + k < dp + k
  · rcases h with h | h
    · omega
    · omega
  · rw [if_neg c]
theorem cpy_dn (f : Nat → Int32) (sp dp n m : Nat) (hm : m < n) : upd (va_cpy f f (sp + (m + 1)) (dp + (m + 1)) (n - (m + 1))) (dp + m) (f (sp + m)) = va_cpy f f (sp + m) (dp + m) (n - m) := by
  funext k
  unfold upd va_cpy
  by_cases h : k = dp + m
  · rw [if_pos h, if_pos (by omega), show sp + m + (k - (dp + m)) = sp + m by omega]
  · rw [if_neg h]
    by_cases h2 : dp + (m + 1) ≤ k ∧ k < dp + (m + 1) + (n - (m + 1))
    · rw [if_pos h2, if_pos (by omega)]
      congr 1
      omega
    · rw [if_neg h2, if_neg (by omega)]
set_option maxRecDepth 20000 in
theorem m_copy {ra i rb j k : Int32} (hS : MSh h (x + 1)) (hR : RIn A rs) (hb : ¬ (inB ra 8 ∧ inB rb 8) → kk (some (.inl eBAD)) (MU h (x + 1) I A)) (hn : ∀ a b, a < 8 → b < 8 → ra = nI a → rb = nI b → (rs a = none ∨ rs b = none) → kk (some (.inl (-1000010 - 1))) (MU h (x + 1) (upd I 700 1) A))
    (ht : ∀ a b s t, a < 8 → b < 8 → ra = nI a → rb = nI b → rs a = some s → rs b = some t → ¬ A 702 a = A 702 b → kk (some (.inl (-1000010 - 5))) (MU h (x + 1) (upd I 700 5) A))
    (hp : ∀ a b s t, a < 8 → b < 8 → ra = nI a → rb = nI b → rs a = some s → rs b = some t → A 702 a = A 702 b → ¬ (isPt s i k ∧ isPt t j k) → kk (some (.inl (-1000010 - 2))) (MU h (x + 1) (upd I 700 2) A))
    (hg : ∀ a b s t i' j' k', a < 8 → b < 8 → ra = nI a → rb = nI b → rs a = some s → rs b = some t → A 702 a = A 702 b → i = nI i' → j = nI j' → k = nI k' → i' + k' ≤ s → j' + k' ≤ t → kk (some (.inl (nI k'))) (MU h (x + 1) (upd I 700 0) (va_up A 703 (va_cpy (A 703) (A 703) (40 * a + i') (40 * b + j') k')))) : CL (d + 2) mX7_copy 0 0 [.inr (.inr (8, x + 1)), .inl ra, .inl i, .inl rb, .inl j, .inl k] (MU h (x + 1) I A) kk := by
  refine mw3 T_X7_copy (fun Wm go wk => go (cut1 112) 80 0 _ _ _ _ _ ?_)
  have eR : ∀ v, inR v 0 7 ↔ inB v 8 := fun v => inR_B (n := 8) (by omega)
  refine m_isRow (fun c1 => br1 ?_) (fun c1 => br0 (hb (fun z => c1 ((eR _).mpr z.1))))
  refine m_isRow (fun c2 => br1 ?_) (fun c2 => br0 (hb (fun z => c2 ((eR _).mpr z.2))))
  obtain ⟨a, ha, rfl⟩ := inB_of ((eR _).mp c1) (by omega)
  obtain ⟨b, hbb, rfl⟩ := inB_of ((eR _).mp c2) (by omega)
  refine mldk (f := 701) hS (by decide) a rfl ha ?_
  refine hR.neg2 ha (fun z => m_meets (hn a b ha hbb rfl rfl (Or.inl z))) (fun s s1 s2 s3 => ?_)
  refine mldk (f := 701) hS (by decide) b rfl hbb ?_
  refine hR.neg hbb (fun z => m_meets (hn a b ha hbb rfl rfl (Or.inr z))) (fun t t1 t2 t3 => ?_)
  refine mldk (f := 702) hS (by decide) a rfl ha ?_
  refine mldk (f := 702) hS (by decide) b rfl hbb ?_
  refine And.intro (fun c3 => ?_) (fun c3 => m_meets (ht a b s t ha hbb rfl rfl s1 t1 c3))
  refine m_isPart hS ha s3 s2 (fun c4 => br1 ?_) (fun c4 => br0 (m_meets (hp a b s t ha hbb rfl rfl s1 t1 c3 (fun q => c4 q.1))))
  refine m_isPart hS hbb t3 t2 (fun c5 => br1 ?_) (fun c5 => br0 (m_meets (hp a b s t ha hbb rfl rfl s1 t1 c3 (fun q => c5 q.2))))
  obtain ⟨i', hi', ei⟩ := nI_of (x := i) (z0.mpr c4.1)
  obtain ⟨j', hj', ej⟩ := nI_of (x := j) (z0.mpr c5.1)
  obtain ⟨k', hk', ek⟩ := nI_of (x := k) (z0.mpr c4.2.1)
  subst ei; subst ej; subst ek
  have q4 := c4.2.2
  have q5 := c5.2.2
  rw [nI_toInt hi', nI_toInt hk'] at q4
  rw [nI_toInt hj', nI_toInt hk'] at q5
  have b4 : i' + k' ≤ s := by omega
  have b5 : j' + k' ≤ t := by omega
  have fin := hg a b s t i' j' k' ha hbb rfl rfl s1 t1 c3 rfl rfl rfl b4 b5
  -- upwards
  have upw : ¬ (a = b ∧ i' < j') → Wm 112 [some (.inr (.inr (8, x + 1))), some (.inl (nI a)), some (.inl (nI i')), some (.inl (nI b)), some (.inl (nI j')), some (.inl (nI k')), some (.inl 0), some (.inl (nI 0)), none] [] (MU h (x + 1) I A) 0 0 := by
    intro hno
    have start := upto (n := k') (P := fun m => Wm 112 [some (.inr (.inr (8, x + 1))), some (.inl (nI a)), some (.inl (nI i')), some (.inl (nI b)), some (.inl (nI j')), some (.inl (nI k')), some (.inl 0), some (.inl (nI m)), none] [] (MU h (x + 1) I (va_up A 703 (va_cpy (A 703) (A 703) (40 * a + i') (40 * b + j') m))) 0 0) (fun m hm ih => ?_) 0 (Nat.zero_le _)
    · rw [cpy_0, up_id] at start
      exact start
    refine go (cut1 112) 80 112 _ _ _ _ _ ?_
    refine icg rfl rfl (by omega) (by omega) (fun z => ?_) (fun z => br0 ?_)
    · have e : m = k' := by omega
      subst e
      exact m_well fin
    · refine mldk (f := 703) hS (by decide) (40 * a + i' + m) (by show (40 : Int32) * nI a + nI i' + nI m = _; rw [ix40, nI_add]) (by show _ < 320; omega) ?_
      refine mstk (f := 703) hS (by decide) (40 * b + j' + m) (by show (40 : Int32) * nI b + nI j' + nI m = _; rw [ix40, nI_add]) (by show _ < 320; omega) ?_
      have e := ih z
      rw [← cpy_s, ← bx_uu A 703 (va_cpy (A 703) (A 703) (40 * a + i') (40 * b + j') m), ← nI_1, ← cpy_in (f := A 703) (sp := 40 * a + i') (dp := 40 * b + j') (k := m) (n := k') z (by omega)] at e
      exact wk _ _ _ _ _ _ _ e (by repeat (first | exact ln | refine l0 ?_ | refine l1 rfl ?_))
  have dnw : (a = b ∧ i' < j') → Wm 112 [some (.inr (.inr (8, x + 1))), some (.inl (nI a)), some (.inl (nI i')), some (.inl (nI b)), some (.inl (nI j')), some (.inl (nI k')), some (.inl 1), some (.inl (nI 0)), none] [] (MU h (x + 1) I A) 0 0 := by
    intro hyes
    have start := upto (n := k') (P := fun m => Wm 112 [some (.inr (.inr (8, x + 1))), some (.inl (nI a)), some (.inl (nI i')), some (.inl (nI b)), some (.inl (nI j')), some (.inl (nI k')), some (.inl 1), some (.inl (nI m)), none] [] (MU h (x + 1) I (va_up A 703 (va_cpy (A 703) (A 703) (40 * a + i' + (k' - m)) (40 * b + j' + (k' - m)) (k' - (k' - m))))) 0 0) (fun m hm ih => ?_) 0 (Nat.zero_le _)
    · rw [Nat.sub_zero, Nat.sub_self, cpy_0, up_id] at start
      exact start
    refine go (cut1 112) 80 112 _ _ _ _ _ ?_
    refine icg rfl rfl (by omega) (by omega) (fun z => ?_) (fun z => br1 ?_)
    · have e : m = k' := by omega
      subst e
      rw [Nat.sub_self, Nat.sub_zero, Nat.add_zero, Nat.add_zero]
      exact m_well fin
    · have es : (nI k' - 1 - nI m : Int32) = nI (k' - m - 1) := by
        have e1 : nI k' - 1 = nI (k' - 1) := pk_sub (b := 1) (by omega)
        rw [e1, pk_sub (by omega)]
        congr 1
        omega
      refine mldk (f := 703) hS (by decide) (40 * a + i' + (k' - m - 1)) (by show (40 : Int32) * nI a + nI i' + (nI k' - 1 - nI m) = _; rw [es, ix40, nI_add]) (by show _ < 320; omega) ?_
      refine mstk (f := 703) hS (by decide) (40 * b + j' + (k' - m - 1)) (by show (40 : Int32) * nI b + nI j' + (nI k' - 1 - nI m) = _; rw [es, ix40, nI_add]) (by show _ < 320; omega) ?_
      have e := ih z
      have hm1 : k' - (m + 1) = k' - m - 1 := by omega
      have hm2 : k' - m = k' - m - 1 + 1 := by omega
      have rd : va_cpy (A 703) (A 703) (40 * a + i' + (k' - m)) (40 * b + j' + (k' - m)) (k' - (k' - m)) (40 * a + i' + (k' - m - 1)) = A 703 (40 * a + i' + (k' - m - 1)) := by
        unfold va_cpy
        rw [if_neg (by omega)]
      rw [hm1, ← cpy_dn (A 703) (40 * a + i') (40 * b + j') k' (k' - m - 1) (by omega), ← hm2, ← rd, ← bx_uu A 703 (va_cpy (A 703) (A 703) (40 * a + i' + (k' - m)) (40 * b + j' + (k' - m)) (k' - (k' - m))), ← nI_1] at e
      exact wk _ _ _ _ _ _ _ e (by repeat (first | exact ln | refine l0 ?_ | refine l1 rfl ?_))
  refine And.intro (fun c6 => ?_) (fun c6 => ?_)
  · have e := (nI_eq (by omega) (by omega)).mp (show nI a = nI b from c6)
    refine icg rfl rfl (by omega) (by omega) (fun z => ?_) (fun z => ?_)
    · exact upw (fun q => by omega)
    · exact dnw ⟨e, z⟩
  · exact upw (fun q => c6 (by show nI a = nI b; rw [q.1]))
theorem m_feed {v : Int32} (hS : MSh h (x + 1)) (hI : MIn I n cm at' am by' tm) (hb : ¬ inR v 0 255 → kk (some (.inl eBAD)) (MU h (x + 1) I A)) (hf : inR v 0 255 → by' = 120 → kk (some (.inl eFULL)) (MU h (x + 1) I A))
    (hg : inR v 0 255 → by' < 120 → kk (some (.inl (nI (by' + 1)))) (MU h (x + 1) (upd I 704 (nI (by' + 1))) (va_up A 705 (upd (A 705) by' v)))) : CL (d + 1) mX7_feed 0 0 [.inr (.inr (8, x + 1)), .inl v] (MU h (x + 1) I A) kk := by
  obtain ⟨-, -, -, -, ⟨hby, h120⟩, -⟩ := hI
  refine mw T_X7_feed (fun Wm go => go cut0 80 0 _ _ _ _ _ ?_)
  have e : ∀ A, hfI (MU h (x + 1) I A) 704 (x + 1) = nI by' := fun A => (MU_fI _ _ _ _ _).trans hby
  refine m_in (fun c1 => br1 ?_) (fun c1 => br0 (hb c1))
  refine And.intro (fun z => ?_) (fun z => ?_)
  · have z : hfI (MU h (x + 1) I A) 704 (x + 1) = 120 := z
    rw [e] at z
    exact hf c1 ((nI_eq (b := 120) (by omega) (by omega)).mp z)
  · have z : ¬ hfI (MU h (x + 1) I A) 704 (x + 1) = 120 := z
    rw [e] at z
    have z2 : by' ≠ 120 := fun q => z (by rw [q]; rfl)
    refine mstk (f := 705) hS (by decide) by' (e A) (by show _ < 120; omega) ?_
    refine kki (hg c1 (by omega)) ?_ ?_
    · rw [MU_wI, MU_fI]
      show upd I 704 (hfI _ 704 (x + 1) + 1) 704 = _
      rw [e, nI_1]
      exact if_pos rfl
    · rw [MU_wI]
      show MU h (x + 1) (upd I 704 (hfI _ 704 (x + 1) + 1)) _ = _
      rw [e, nI_1]
theorem m_fault (hk : kk (some (.inl (I 706))) (MU h (x + 1) I A)) : CL d mX7_fault 0 0 [.inr (.inr (8, x + 1))] (MU h (x + 1) I A) kk :=
  mw T_X7_fault (fun Wm go => go cut0 30 0 _ _ _ _ _ (kki hk (MU_fI _ _ _ _ _) rfl))
theorem m_undo (hS : MSh h (x + 1)) (hI : MIn I n cm at' am by' tm) (hs : am = 0 → kk (some (.inl eSTATE)) (MU h (x + 1) I A))
    (hg : 0 < am → kk (some (.inl (nI (am - 1)))) (MU h (x + 1) (upd (upd I 728 (nI ((at' + 23) % 24))) 727 (nI (am - 1))) (va_up A 715 (va_cpy (A 729) (A 715) (14 * ((at' + 23) % 24)) 0 14)))) : CL d mX7_undo 0 0 [.inr (.inr (8, x + 1))] (MU h (x + 1) I A) kk := by
  obtain ⟨-, -, ⟨ha, ha24⟩, ⟨hm, hm24⟩, -⟩ := hI
  refine mw T_X7_undo (fun Wm go => go (cut1 38) 80 0 _ _ _ _ _ ?_)
  have e : hfI (MU h (x + 1) I A) 727 (x + 1) = nI am := (MU_fI _ _ _ _ _).trans hm
  have key : 0 < am → Wm 38 [some (.inr (.inr (8, x + 1))), some (.inl (nI 0))] [] (MU h (x + 1) (upd (upd I 728 (nI ((at' + 23) % 24))) 727 (nI (am - 1))) A) 0 0 := by
    intro h0
    have start := upto (n := 14) (P := fun k => Wm 38 [some (.inr (.inr (8, x + 1))), some (.inl (nI k))] [] (MU h (x + 1) (upd (upd I 728 (nI ((at' + 23) % 24))) 727 (nI (am - 1))) (va_up A 715 (va_cpy (A 729) (A 715) (14 * ((at' + 23) % 24)) 0 k))) 0 0) (fun k hkn ih => ?_) 0 (Nat.zero_le _)
    · rw [cpy_0, up_id] at start
      exact start
    have hlt : (at' + 23) % 24 < 24 := Nat.mod_lt _ (by omega)
    refine go (cut1 38) 80 38 _ _ _ _ _ ?_
    refine icg rfl (show (14 : Int32) = nI 14 from rfl) (by omega) (by omega) (fun c => ?_) (fun c => ?_)
    · have e : k = 14 := by omega
      subst e
      exact kki (hg h0) (MU_fI _ _ _ _ _) rfl
    · refine mldk (f := 729) hS (by decide) (14 * ((at' + 23) % 24) + k) (by
        show (14 : Int32) * hfI (MU h (x + 1) (upd (upd I 728 (nI ((at' + 23) % 24))) 727 (nI (am - 1))) (va_up A 715 (va_cpy (A 729) (A 715) (14 * ((at' + 23) % 24)) 0 k))) 728 (x + 1) + nI k = _
        rw [MU_fI]
        exact ix14 _ _) (by show _ < 336; omega) ?_
      refine mstk (f := 715) hS (by decide) k rfl (by show k < 14; omega) ?_
      have e := ih c
      rw [← cpy_s, Nat.zero_add, ← bx_uu A 715 (va_cpy (A 729) (A 715) (14 * ((at' + 23) % 24)) 0 k), ← nI_1] at e
      exact e
  refine And.intro (fun z => ?_) (fun z => And.intro (by decide) ?_)
  · have z : hfI (MU h (x + 1) I A) 727 (x + 1) = 0 := z
    rw [e] at z
    exact hs ((nI_eq (b := 0) (by omega) (by omega)).mp z)
  · have z : ¬ hfI (MU h (x + 1) I A) 727 (x + 1) = 0 := z
    rw [e] at z
    have z2 : am ≠ 0 := fun q => z (by rw [q]; rfl)
    refine wmc (Wm := Wm) (key (by omega)) rfl ?_
    rw [MU_wI, MU_fI, MU_wI, MU_fI]
    dsimp only
    have e1 : nI at' + 24 - 1 - (nI at' + 24 - 1) / 24 * 24 = nI ((at' + 23) % 24) := by
      rw [show (24 : Int32) = nI 24 from rfl, nI_add]
      have e2 : nI (at' + 24) - 1 = nI (at' + 23) := pk_sub (b := 1) (by omega)
      rw [e2]
      exact pk_rem (by omega) (by omega) (by omega)
    rw [ha, e1]
    show MU h (x + 1) (upd (upd I 728 _) 727 (I 727 - 1)) A = _
    rw [hm, show nI am - 1 = nI (am - 1) from pk_sub (b := 1) (by omega)]
end M9
