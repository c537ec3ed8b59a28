/-! ===== the reference: the best of ways to write ===== -/
def chS (tk : Nat → Int32) (dg : Nat → Nat) (a : Nat → Int32) : Nat → Option (Nat → Int32)
  | 0 => some a
  | w + 1 => match chS tk dg a w with
    | none => none
    | some b => if b (dg w) < tk w then none else some (upd b (dg w) (b (dg w) - tk w))
theorem chS_n {tk : Nat → Int32} {dg : Nat → Nat} {a : Nat → Int32} {w : Nat} (h : chS tk dg a w = none) : ∀ k, chS tk dg a (w + k) = none
  | 0 => h
  | k + 1 => by
    show (match chS tk dg a (w + k) with | none => none | some b => _) = none
    rw [chS_n h k]
def sbV (on : Nat → Int32) (n : Nat) : Option (Nat → Int32) → Int32
  | none => -1
  | some a => bitsI (stP on (posB a) n)
abbrev dgt (n m code w : Nat) : Nat := code / n ^ (m - 1 - w) % n
abbrev wtk (A : Nat → Nat → Int32) (r i : Nat) (ca : Nat → Nat) (w : Nat) : Int32 := tkN A (ca w) (A 703 (40 * r + (i + 2 * w + 1)))
theorem wrF_lo {a : Nat → Int32} {b c : Nat} {t l : Int32} (hb : b < 8) {j : Nat} (hj : j < 8) : wrF a b c t l j = upd a b (a b - t) j := by
  unfold wrF
  show (if j = 8 + c then _ else if j = 12 then _ else _) = _
  rw [if_neg (by omega), if_neg (by omega)]
theorem wrF_13 {a : Nat → Int32} {b c : Nat} {t l : Int32} (hb : b < 8) (hc : c < 4) : wrF a b c t l 13 = a 13 := by
  unfold wrF
  show (if 13 = 8 + c then _ else if 13 = 12 then _ else if 13 = b then _ else _) = _
  rw [if_neg (by omega), if_neg (by omega), if_neg (by omega)]
theorem pw512 {n k : Nat} (hn : n ≤ 8) (hk : k ≤ 3) : n ^ k ≤ 512 := Nat.le_trans (Nat.pow_le_pow_left hn k) (Nat.pow_le_pow_right (n := 8) (by omega) hk)
theorem pw4096 {n k : Nat} (hn : n ≤ 8) (hk : k ≤ 4) : n ^ k ≤ 4096 := Nat.le_trans (Nat.pow_le_pow_left hn k) (Nat.pow_le_pow_right (n := 8) (by omega) hk)
theorem m_writes2 {d x f b c : Nat} {h : hp} {I : Nat → Int32} {A : Nat → Nat → Int32} {kk : Rt} {lines cv bv : Int32} {w : Nat} (ec : cv = nI c) (eb : bv = nI b) (hw : w = hfR h f (x + 1)) (hS : MSh h (x + 1)) (hf : Mof f) (hb : b < 8) (hc : c < 4) (h0 : A f b < tkB (A 714 c) (A 713 c) lines (A f 13) → kk (some (.inl 0)) (MU h (x + 1) I A)) (h1 : ¬ A f b < tkB (A 714 c) (A 713 c) lines (A f 13) → kk (some (.inl 1)) (MU h (x + 1) I (va_up A f (wrF (A f) b c (tkB (A 714 c) (A 713 c) lines (A f 13)) lines)))) : CL (d + 3) mX7_writes 0 0 [.inr (.inr (8, x + 1)), .inr (.inr (20, w)), .inl cv, .inl lines, .inl bv] (MU h (x + 1) I A) kk := by
  subst ec; subst eb
  exact m_writes hw hS hf hb hc h0 h1
section M16
variable {d x n cm at' am by' tm : Nat} {h : hp} {I : Nat → Int32} {A : Nat → Nat → Int32} {kk : Rt} {rs : Nat → Option Nat}
set_option maxRecDepth 20000 in
theorem m_standingBy {r i m code : Nat} {ca : Nat → Nat} (hS : MSh h (x + 1)) (hn : I 707 = nI n) (n1 : 0 < n) (hn8 : n ≤ 8) (hr : r < 8) (hi : i + 2 * m ≤ 40) (m1 : 1 ≤ m) (m4 : m ≤ 4) (hca : ∀ w, w < m → A 703 (40 * r + (i + 2 * w)) = nI (ca w) ∧ ca w < 4) (hcd : code < 4096) (hk : ∀ A', EA A A' → kk (some (.inl (sbV (A 712) n (chS (wtk A r i ca) (dgt n m code) (A 715) m)))) (MU h (x + 1) I A')) : CL (d + 4) mX7_standingBy 0 0 [.inr (.inr (8, x + 1)), .inl (nI r), .inl (nI i), .inl (nI m), .inl (nI code)] (MU h (x + 1) I A) kk := by
  refine mw3 T_X7_standingBy (fun Wm go wk => go (cut1 10) 80 0 _ _ _ _ _ ?_)
  refine m_copyNow hS ?_
  have hE0 := EA.u6 A (va_cpy (A 715) (A 716) 0 0 14)
  have hC0 : ∀ j, j < 14 → va_up A 716 (va_cpy (A 715) (A 716) 0 0 14) 716 j = A 715 j := by
    intro j hj
    rw [va_up_self]
    unfold va_cpy
    rw [if_pos (by omega)]
    congr 1
    omega
  generalize va_up A 716 (va_cpy (A 715) (A 716) 0 0 14) = C0 at *
  have e7 : ∀ C, hfI (MU h (x + 1) I C) 707 (x + 1) = nI n := fun C => (MU_fI _ _ _ _ _).trans hn
  have L2 : ∀ w, w ≤ m → ∀ C a, EA A C → chS (wtk A r i ca) (dgt n m code) (A 715) w = some a → (∀ j, j < 8 → C 716 j = a j) → C 716 13 = A 715 13 → Wm 34 [some (.inr (.inr (8, x + 1))), some (.inl (nI r)), some (.inl (nI i)), some (.inl (nI m)), some (.inl (nI code)), some (.inl (nI (n ^ (m - 1 - w)))), some (.inl (nI w))] [] (MU h (x + 1) I C) 0 0 := by
    refine upto (n := m) (fun w hw ih C a hE ha h8 h13 => ?_)
    have pw := pw512 hn8 (show m - 1 - w ≤ 3 by omega)
    have pw0 : 0 < n ^ (m - 1 - w) := Nat.pow_pos n1
    refine go (cut2 34 104) 80 34 _ _ _ _ _ ?_
    refine icg rfl rfl (by omega) (by omega) (fun c => ?_) (fun c => ?_)
    · have e : w = m := by omega
      subst e
      refine m_standing rfl hS hn hn8 (Or.inr rfl) ?_
      have e : stP (C 712) (posB (C 716)) n = stP (A 712) (posB a) n := by
        rw [hE 712 (by decide) (by decide)]
        refine stP_congr (fun k hk => ⟨rfl, ?_⟩)
        show decide _ = decide _
        rw [h8 k (by omega)]
      rw [e]
      refine m_bitsI ?_ (kki (hk C hE) ?_ rfl)
      · have := in_and hn8 (on := A 712) (p := posB a) (-1)
        rw [show stP (A 712) (posB a) n &&& (-1) = stP (A 712) (posB a) n from by simp] at this
        exact this
      · rw [ha]; rfl
    · have i703 : C 703 = A 703 := hE 703 (by decide) (by decide)
      refine m_itemAt hS hr (j := i + 2 * w) (by omega) (ix2 i w) ?_
      refine m_itemAt hS hr (j := i + 2 * w + 1) (by omega) (by show nI i + 2 * nI w + 1 = _; rw [ix2]; exact nI_1 _) ?_
      have hm31 : (2 : Nat) ^ 31 = 2147483648 := rfl
      have edv : nI code / nI (n ^ (m - 1 - w)) = nI (code / n ^ (m - 1 - w)) := pk_div (by omega) (by omega) (by omega)
      refine And.intro (fun z => absurd ((nI_eq (b := 0) (by omega) (by omega)).mp z) (by omega)) ?_
      refine And.intro (fun z => absurd ((nI_eq (b := 0) (by omega) (by omega)).mp ((e7 _).symm.trans z)) (by omega)) ?_
      have q1 : C 703 (40 * r + (i + 2 * w)) = nI (ca w) := by rw [i703]; exact (hca w c).1
      have dlt : code / n ^ (m - 1 - w) ≤ code := Nat.div_le_self _ _
      have dg8 : dgt n m code w < n := Nat.mod_lt _ n1
      have hq : tkB (C 714 (ca w)) (C 713 (ca w)) (C 703 (40 * r + (i + 2 * w + 1))) (C 716 13) = wtk A r i ca w := by
        rw [hE 714 (by decide) (by decide), hE 713 (by decide) (by decide), i703, h13]
      refine m_writes2 (c := ca w) (b := dgt n m code w) q1 ?_ rfl hS (Or.inr rfl) (by omega) (hca w c).2 (fun y => br0 ?_) (fun y => br1 ?_)
      · show nI code / nI (n ^ (m - 1 - w)) - nI code / nI (n ^ (m - 1 - w)) / hfI (MU h (x + 1) I C) 707 (x + 1) * hfI (MU h (x + 1) I C) 707 (x + 1) = _
        rw [e7, edv]
        exact pk_rem (by omega) n1 (by omega)
      · rw [hq, h8 _ (by omega)] at y
        have e0 : chS (wtk A r i ca) (dgt n m code) (A 715) (w + 1) = none := by
          show (match chS (wtk A r i ca) (dgt n m code) (A 715) w with | none => none | some b => _) = none
          rw [ha]
          exact if_pos y
        have e1 := chS_n e0 (m - (w + 1))
        rw [show w + 1 + (m - (w + 1)) = m by omega] at e1
        have := hk C hE
        rw [e1] at this
        exact this
      · rw [hq, h8 _ (by omega)] at y
        rw [hq]
        have e0 : chS (wtk A r i ca) (dgt n m code) (A 715) (w + 1) = some (upd a (dgt n m code w) (a (dgt n m code w) - wtk A r i ca w)) := by
          show (match chS (wtk A r i ca) (dgt n m code) (A 715) w with | none => none | some b => _) = _
          rw [ha]
          exact if_neg y
        have e2 := ih c (va_up C 716 (wrF (C 716) (dgt n m code w) (ca w) (wtk A r i ca w) (C 703 (40 * r + (i + 2 * w + 1))))) _ (hE.tr (EA.u6 _ _)) e0 (fun j hj => ?_) ?_
        · have fin : ∀ v : Int32, v = nI (n ^ (m - 1 - (w + 1))) → Wm 104 [some (.inr (.inr (8, x + 1))), some (.inl (nI r)), some (.inl (nI i)), some (.inl (nI m)), some (.inl (nI code)), none, some (.inl (nI w))] [.inl v] (MU h (x + 1) I (va_up C 716 (wrF (C 716) (dgt n m code w) (ca w) (wtk A r i ca w) (C 703 (40 * r + (i + 2 * w + 1)))))) 0 0 := by
            intro v hv
            subst hv
            refine go (cut1 34) 80 104 _ _ _ _ _ ?_
            rw [← nI_1 w] at e2
            exact e2
          refine And.intro (fun z => ?_) (fun z => ?_)
          · refine wk _ _ _ _ _ _ _ (fin _ ?_) (by repeat (first | exact ln | refine l0 ?_ | refine l1 rfl ?_))
            have z : n ^ (m - 1 - w) ≤ 1 := (nI_leI (b := 1) (by omega) (by omega)).mp z
            have : n ^ (m - 1 - (w + 1)) ≤ n ^ (m - 1 - w) := Nat.pow_le_pow_right n1 (by omega)
            have h2 : 0 < n ^ (m - 1 - (w + 1)) := Nat.pow_pos n1
            rw [show n ^ (m - 1 - (w + 1)) = 1 by omega]
            rfl
          · have z : ¬ nI (n ^ (m - 1 - w)) ≤ nI 1 := z
            have z : ¬ n ^ (m - 1 - w) ≤ 1 := fun q => z ((nI_leI (by omega) (by omega)).mpr q)
            have hne : m - 1 - w ≠ 0 := fun q => z (by rw [q]; exact Nat.le_refl 1)
            refine And.intro (fun z => absurd ((nI_eq (b := 0) (by omega) (by omega)).mp ((e7 _).symm.trans z)) (by omega)) ?_
            refine wk _ _ _ _ _ _ _ (fin _ ?_) (by repeat (first | exact ln | refine l0 ?_ | refine l1 rfl ?_))
            rw [e7]
            show nI (n ^ (m - 1 - w)) / nI n = _
            rw [pk_div (by omega) n1 (by omega)]
            congr 1
            rw [show m - 1 - w = (m - 1 - (w + 1)) + 1 by omega, Nat.pow_succ]
            exact Nat.mul_div_cancel _ n1
        · rw [va_up_self, wrF_lo (by omega) hj]
          show (if j = _ then _ else _) = (if j = _ then _ else _)
          rw [h8 _ (by omega), h8 _ hj]
        · rw [va_up_self, wrF_13 (by omega) (hca w c).2]
          exact h13
  have L1 := upto (n := m - 1) (P := fun k => Wm 10 [some (.inr (.inr (8, x + 1))), some (.inl (nI r)), some (.inl (nI i)), some (.inl (nI m)), some (.inl (nI code)), some (.inl (nI (n ^ k))), some (.inl (nI (k + 1)))] [] (MU h (x + 1) I C0) 0 0) (fun k hk1 ih => ?_) 0 (Nat.zero_le _)
  · exact L1
  · refine go (cut2 10 34) 80 10 _ _ _ _ _ ?_
    refine icg rfl rfl (by omega) (by omega) (fun c => ?_) (fun c => ?_)
    · have e : k = m - 1 := by omega
      have := L2 0 (Nat.zero_le _) C0 (A 715) hE0 rfl (fun j hj => hC0 j (by omega)) (hC0 13 (by omega))
      rw [Nat.sub_zero, ← e] at this
      exact this
    · have e := ih (by omega)
      rw [← nI_1 (k + 1), Nat.pow_succ, ← pk_mul] at e
      refine wmc (Wm := Wm) e ?_ rfl
      rw [e7]
      rfl
def bwS (up : Nat → Int32) : Nat → Int32 × Nat
  | 0 => (-1, 0)
  | k + 1 => if (bwS up k).1 < up k then (up k, k) else bwS up k
theorem bwS_le (up : Nat → Int32) : ∀ k, (bwS up k).2 ≤ k
  | 0 => Nat.le_refl 0
  | k + 1 => by
    have := bwS_le up k
    show (if _ then _ else _ : Int32 × Nat).2 ≤ _
    split
    · show k ≤ k + 1
      omega
    · omega
abbrev wrU (A : Nat → Nat → Int32) (n r i m : Nat) (ca : Nat → Nat) (code : Nat) : Int32 := sbV (A 712) n (chS (wtk A r i ca) (dgt n m code) (A 715) m)
def wrV (bw : Int32 × Nat) (n m : Nat) (k : Int32) : Int32 := if bw.1 < 0 ∨ ¬ k < nI m then eNONE else if k < 0 then bw.1 else nI (dgt n m bw.2 k.toNatClampNeg)
theorem nI_m1 {a : Nat} (h : 1 ≤ a) : nI a + (-1) = nI (a - 1) := by
  have e : nI a = nI (a - 1) + 1 := by rw [nI_1, show a - 1 + 1 = a by omega]
  rw [e, Int32.add_assoc]
  show nI (a - 1) + 0 = _
  exact Int32.add_zero _
set_option maxRecDepth 20000 in
theorem m_writings {rw' i many k : Int32} (hS : MSh h (x + 1)) (hI : MIn I n cm at' am by' tm) (hR : RIn A rs) (hs : n = 0 → kk (some (.inl eSTATE)) (MU h (x + 1) I A)) (hb : 0 < n → ¬ (inB rw' 8 ∧ inR many 1 4 ∧ ¬ k < -1) → kk (some (.inl eBAD)) (MU h (x + 1) I A))
    (hn : ∀ r m, 0 < n → r < 8 → rw' = nI r → 1 ≤ m → m ≤ 4 → many = nI m → ¬ k < -1 → rs r = none → kk (some (.inl (-1000010 - 1))) (MU h (x + 1) (upd I 700 1) A))
    (hp : ∀ r m s, 0 < n → r < 8 → rw' = nI r → 1 ≤ m → m ≤ 4 → many = nI m → ¬ k < -1 → rs r = some s → ¬ isPt s i (nI (2 * m)) → kk (some (.inl (-1000010 - 2))) (MU h (x + 1) (upd I 700 2) A))
    (hl : ∀ r m s i', 0 < n → r < 8 → rw' = nI r → 1 ≤ m → m ≤ 4 → many = nI m → ¬ k < -1 → rs r = some s → i = nI i' → i' + 2 * m ≤ s → s ≤ 40 → ¬ (∀ w, w < m → inB (A 703 (40 * r + (i' + 2 * w))) cm ∧ inR (A 703 (40 * r + (i' + 2 * w + 1))) 1 30) → kk (some (.inl eBAD)) (MU h (x + 1) I A))
    (hg : ∀ r m s i' ca A', 0 < n → r < 8 → rw' = nI r → 1 ≤ m → m ≤ 4 → many = nI m → ¬ k < -1 → rs r = some s → i = nI i' → i' + 2 * m ≤ s → s ≤ 40 → (∀ w, w < m → A 703 (40 * r + (i' + 2 * w)) = nI (ca w) ∧ ca w < cm) → (∀ w, w < m → inR (A 703 (40 * r + (i' + 2 * w + 1))) 1 30) → EA A A' → kk (some (.inl (wrV (bwS (wrU A n r i' m ca) (n ^ m)) n m k))) (MU h (x + 1) (upd I 700 0) A')) : CL (d + 5) mX7_writings 0 0 [.inr (.inr (8, x + 1)), .inl rw', .inl i, .inl many, .inl k] (MU h (x + 1) I A) kk := by
  obtain ⟨⟨hn', hn8⟩, ⟨hc, hc4⟩, -⟩ := hI
  refine mw3 T_X7_writings (fun Wm go wk => go (cut1 68) 80 0 _ _ _ _ _ ?_)
  have eR : inR rw' 0 7 ↔ inB rw' 8 := inR_B (n := 8) (by omega)
  have e7 : ∀ C, hfI (MU h (x + 1) I C) 707 (x + 1) = nI n := fun C => (MU_fI _ _ _ _ _).trans hn'
  refine n0 (e7 A) hn8 hs (fun n1 => ?_)
  have hb := hb n1
  refine m_isRow (fun c1 => br1 ?_) (fun c1 => br0 (hb (fun z => c1 (eR.mpr z.1))))
  refine m_in (fun c2 => br1 ?_) (fun c2 => br0 (hb (fun z => c2 z.2.1)))
  refine And.intro (fun kk1 => ?_) (fun kk1 => hb (fun z => z.2.2 (Int32.not_le.mp kk1)))
  have kk1 : ¬ k < -1 := Int32.not_lt.mpr kk1
  obtain ⟨r, hr, rfl⟩ := inB_of (eR.mp c1) (by omega)
  obtain ⟨m, m1, m2, rfl⟩ := inR_n (a := 1) (b := 4) (by omega) c2 (by omega)
  refine mldk (f := 701) hS (by decide) r rfl hr ?_
  refine hR.neg hr (fun z => m_meets (hn r m n1 hr rfl m1 m2 rfl kk1 z)) (fun s z1 z2 z3 => ?_)
  refine m_isPart hS hr z3 z2 (fun c3 => br1 ?_) (fun c3 => br0 (m_meets (hp r m s n1 hr rfl m1 m2 rfl kk1 z1 (fun q => c3 ?_))))
  · have c3 : isPt s i (2 * nI m) := c3
    rw [ix2b] at c3
    obtain ⟨i', rfl, hi'⟩ := isPt_of c3 (by omega)
    have hl := hl r m s i' n1 hr rfl m1 m2 rfl kk1 z1 rfl hi' z2
    have hg := fun ca A' => hg r m s i' ca A' n1 hr rfl m1 m2 rfl kk1 z1 rfl hi' z2
    refine go (cut1 71) 60 68 _ _ _ _ _ ?_
    refine upto (n := m) (P := fun q => (∀ w, w < q → inB (A 703 (40 * r + (i' + 2 * w))) cm ∧ inR (A 703 (40 * r + (i' + 2 * w + 1))) 1 30) → Wm 71 [some (.inr (.inr (8, x + 1))), some (.inl (nI r)), some (.inl (nI i')), some (.inl (nI m)), some (.inl k), some (.inl (nI q)), none, none, none, none] [] (MU h (x + 1) I A) 0 0) (fun q hq ih hw => ?_) 0 (Nat.zero_le _) (fun w hw => absurd hw (Nat.not_lt_zero w))
    refine go (cut2 71 126) 60 71 _ _ _ _ _ ?_
    refine icg rfl rfl (by omega) (by omega) (fun cc => ?_) (fun cc => ?_)
    · have e : q = m := by omega
      subst e
      clear ih hl
      obtain ⟨ca, hca⟩ : ∃ ca : Nat → Nat, ∀ w, w < q → A 703 (40 * r + (i' + 2 * w)) = nI (ca w) ∧ ca w < cm := by
        refine ⟨fun w => (A 703 (40 * r + (i' + 2 * w))).toNatClampNeg, fun w hw' => ?_⟩
        obtain ⟨b, hb1, hb2⟩ := inB_of (hw w hw').1 (by omega)
        dsimp only
        rw [hb2, nI_clamp (by omega)]
        exact ⟨rfl, hb1⟩
      have hg := fun A' => hg ca A' hca (fun w hw' => (hw w hw').2)
      have pw : n ^ q ≤ 4096 := pw4096 hn8 m2
      refine go (cut1 138) 60 126 _ _ _ _ _ ?_
      refine upto (n := q) (P := fun j => Wm 138 [some (.inr (.inr (8, x + 1))), some (.inl (nI r)), some (.inl (nI i')), some (.inl (nI q)), some (.inl k), some (.inl (-1)), some (.inl (nI 0)), some (.inl (nI (n ^ j))), some (.inl (nI j)), none] [] (MU h (x + 1) I A) 0 0) (fun j hj ih => ?_) 0 (Nat.zero_le _)
      refine go (cut2 138 162) 60 138 _ _ _ _ _ ?_
      refine icg rfl rfl (by omega) (by omega) (fun c5 => ?_) (fun c5 => ?_)
      · have e : j = q := by omega
        subst e
        clear ih
        -- the codes
        have L : ∀ cd, cd ≤ n ^ j → ∀ C, EA A C → Wm 162 [some (.inr (.inr (8, x + 1))), some (.inl (nI r)), some (.inl (nI i')), some (.inl (nI j)), some (.inl k), some (.inl (bwS (wrU A n r i' j ca) cd).1), some (.inl (nI (bwS (wrU A n r i' j ca) cd).2)), some (.inl (nI (n ^ j))), some (.inl (nI cd)), none] [] (MU h (x + 1) I C) 0 0 := by
          refine upto (n := n ^ j) (fun cd hcd ih C hE => ?_)
          refine go (cut2 162 218) 60 162 _ _ _ _ _ ?_
          refine icg rfl rfl (by omega) (by omega) (fun c6 => ?_) (fun c6 => ?_)
          · have e : cd = n ^ j := by omega
            have hg := hg C hE
            clear ih e
            generalize hbw : bwS (wrU A n r i' j ca) cd = bw at *
            have bw2 : bw.2 ≤ 4096 := by
              have := bwS_le (wrU A n r i' j ca) cd
              rw [hbw] at this
              omega
            have e' : cd = n ^ j := by omega
            rw [← e', hbw] at hg
            refine go (cut1 223) 60 218 _ _ _ _ _ ?_
            have hm1 : nI j - 1 = nI (j - 1) := pk_sub (b := 1) (by omega)
            -- the answer, out of 250
            have ans : ∀ bb : Int32, (¬ k < 0 → k < nI j → bb - bb / nI n * nI n = nI (dgt n j bw.2 k.toNatClampNeg)) → ∀ u : Option pv, Wm 250 [some (.inr (.inr (8, x + 1))), some (.inl (nI r)), some (.inl (nI i')), some (.inl (nI j)), some (.inl k), some (.inl bw.1), some (.inl bb), none, none, none] [] (MU h (x + 1) I C) 0 0 := by
              intro bb hbb u
              have fin : ∀ v : Int32, v = wrV bw n j k → Wm 284 [some (.inr (.inr (8, x + 1))), none, none, none, none, none, none, none, none, none] [.inl v, .inr (.inr (8, x + 1))] (MU h (x + 1) I C) 0 0 := by
                intro v hv
                subst hv
                refine go cut0 60 284 _ _ _ _ _ ?_
                exact m_well hg
              refine go (cut1 284) 60 250 _ _ _ _ _ ?_
              refine And.intro (fun y => ?_) (fun y => ?_)
              · refine wk _ _ _ _ _ _ _ (fin _ ?_) (by repeat (first | exact ln | refine l0 ?_ | refine l1 rfl ?_))
                unfold wrV
                rw [if_pos (Or.inl y)]
              · refine And.intro (fun y2 => ?_) (fun y2 => ?_)
                · refine And.intro (fun y3 => ?_) (fun y3 => ?_)
                  · refine And.intro (fun z => absurd ((nI_eq (b := 0) (by omega) (by omega)).mp ((e7 _).symm.trans z)) (by omega)) ?_
                    refine wk _ _ _ _ _ _ _ (fin _ ?_) (by repeat (first | exact ln | refine l0 ?_ | refine l1 rfl ?_))
                    unfold wrV
                    have y3 : ¬ k < 0 := Int32.not_lt.mpr y3
                    rw [if_neg (fun z => z.elim y (fun q => q y2)), if_neg y3, e7]
                    exact hbb y3 y2
                  · refine wk _ _ _ _ _ _ _ (fin _ ?_) (by repeat (first | exact ln | refine l0 ?_ | refine l1 rfl ?_))
                    unfold wrV
                    rw [if_neg (fun z => z.elim y (fun q => q y2)), if_pos (Int32.not_le.mp y3)]
                · refine wk _ _ _ _ _ _ _ (fin _ ?_) (by repeat (first | exact ln | refine l0 ?_ | refine l1 rfl ?_))
                  unfold wrV
                  rw [if_pos (Or.inr y2)]
            by_cases hk0 : k < 0
            · refine wmc (Wm := Wm) (L' := [some (.inr (.inr (8, x + 1))), some (.inl (nI r)), some (.inl (nI i')), some (.inl (nI j)), some (.inl k), some (.inl bw.1), some (.inl (nI bw.2)), some (.inl (nI (n ^ j))), some (.inl (nI j - 1)), none]) ?_ rfl rfl
              refine go (cut1 250) 60 223 _ _ _ _ _ ?_
              refine And.intro (fun y => ?_) (fun y => And.intro (fun y2 => ?_) (fun y2 => absurd hk0 y2))
              · exact wk _ _ _ _ _ _ _ (ans _ (fun q => absurd hk0 q) none) (by repeat (first | exact ln | refine l0 ?_ | refine l1 rfl ?_))
              · exact wk _ _ _ _ _ _ _ (ans _ (fun q => absurd hk0 q) none) (by repeat (first | exact ln | refine l0 ?_ | refine l1 rfl ?_))
            · obtain ⟨k', hk', rfl⟩ := nI_of (x := k) hk0
              have DN := upto (n := j - 1 - k') (P := fun t => Wm 223 [some (.inr (.inr (8, x + 1))), some (.inl (nI r)), some (.inl (nI i')), some (.inl (nI j)), some (.inl (nI k')), some (.inl bw.1), some (.inl (nI (bw.2 / n ^ t))), none, some (.inl (nI (j - 1 - t))), none] [] (MU h (x + 1) I C) 0 0) (fun t ht ih => ?_) 0 (Nat.zero_le _)
              · rw [Nat.pow_zero, Nat.div_one, Nat.sub_zero, ← hm1] at DN
                exact wk _ _ _ _ _ _ _ DN (by repeat (first | exact ln | refine l0 ?_ | refine l1 rfl ?_))
              · have bt : bw.2 / n ^ t ≤ bw.2 := Nat.div_le_self _ _
                refine go (cut2 223 250) 60 223 _ _ _ _ _ ?_
                refine And.intro (fun y => ?_) (fun y => And.intro (fun y2 => absurd y2 hk0) (fun y2 => ?_))
                · have y : j - 1 - t ≤ k' := (nI_leI (by omega) (by omega)).mp y
                  refine wk _ _ _ _ _ _ _ (ans _ (fun q1 q2 => ?_) none) (by repeat (first | exact ln | refine l0 ?_ | refine l1 rfl ?_))
                  have q2 : ¬ j ≤ k' := fun z => Int32.not_lt.mpr ((nI_leI (by omega) (by omega)).mpr z) q2
                  rw [nI_clamp (by omega), pk_rem (by omega) n1 (by omega)]
                  have : t = j - 1 - k' := by omega
                  rw [this]
                · have y : ¬ nI (j - 1 - t) ≤ nI k' := y
                  have y : ¬ j - 1 - t ≤ k' := fun z => y ((nI_leI (by omega) (by omega)).mpr z)
                  have e := ih (by omega)
                  refine And.intro (fun z => absurd ((nI_eq (b := 0) (by omega) (by omega)).mp ((e7 _).symm.trans z)) (by omega)) ?_
                  rw [show j - 1 - (t + 1) = j - 1 - t - 1 by omega, ← nI_m1 (show 1 ≤ j - 1 - t by omega), Nat.pow_succ, ← Nat.div_div_eq_div_mul, ← pk_div (by omega) n1 (by omega)] at e
                  refine wmc (Wm := Wm) e ?_ rfl
                  rw [e7]
                  rfl
          · have i703 : C 703 = A 703 := hE 703 (by decide) (by decide)
            refine m_standingBy (n := n) (ca := ca) hS hn' n1 hn8 hr (by omega) m1 m2 (fun w hw' => ?_) (by omega) (fun C' hE' => ?_)
            · rw [i703]
              exact ⟨(hca w hw').1, by have := (hca w hw').2; omega⟩
            · have ev : sbV (C 712) n (chS (wtk C r i' ca) (dgt n j cd) (C 715) j) = wrU A n r i' j ca cd := by
                rw [hE 712 (by decide) (by decide), hE 715 (by decide) (by decide)]
                have : wtk C r i' ca = wtk A r i' ca := by
                  funext w
                  show tkB _ _ _ _ = tkB _ _ _ _
                  rw [hE 714 (by decide) (by decide), hE 713 (by decide) (by decide), i703, hE 715 (by decide) (by decide)]
                rw [this]
              rw [ev]
              have e := ih c6 C' (hE.tr hE')
              have hs : bwS (wrU A n r i' j ca) (cd + 1) = if (bwS (wrU A n r i' j ca) cd).1 < wrU A n r i' j ca cd then (wrU A n r i' j ca cd, cd) else bwS (wrU A n r i' j ca) cd := rfl
              rw [hs, ← nI_1 cd] at e
              generalize wrU A n r i' j ca cd = up at *
              generalize bwS (wrU A n r i' j ca) cd = bw at *
              refine And.intro (fun y => And.intro (fun y2 => ?_) (fun y2 => absurd y y2)) (fun y => And.intro (fun y2 => absurd y2 y) (fun y2 => ?_))
              · have y : up ≤ bw.1 := y
                rw [if_neg (Int32.not_lt.mpr y)] at e
                exact wk _ _ _ _ _ _ _ e (by repeat (first | exact ln | refine l0 ?_ | refine l1 rfl ?_))
              · have y : ¬ up ≤ bw.1 := y
                rw [if_pos (Int32.not_le.mp y)] at e
                exact wk _ _ _ _ _ _ _ e (by repeat (first | exact ln | refine l0 ?_ | refine l1 rfl ?_))
        exact L 0 (Nat.zero_le _) A (EA.rf A)
      · have e := ih c5
        rw [← nI_1 j, Nat.pow_succ, ← pk_mul] at e
        refine wmc (Wm := Wm) e ?_ rfl
        rw [e7]
        rfl
    · refine m_itemAt hS hr (j := i' + 2 * q) (by omega) (ix2 i' q) ?_
      refine m_isClerk hc (by omega) (fun c4 => br1 ?_) (fun c4 => br0 (hl (fun z => c4 (z q cc).1)))
      refine m_itemAt hS hr (j := i' + 2 * q + 1) (by omega) (by show nI i' + 2 * nI q + 1 = _; rw [ix2]; exact nI_1 _) ?_
      refine m_in (fun c5 => br1 ?_) (fun c5 => br0 (hl (fun z => c5 (z q cc).2)))
      have e := ih cc (fun w hw' => by
        by_cases y : w = q
        · rw [y]; exact ⟨c4, c5⟩
        · exact hw w (by omega))
      rw [← nI_1] at e
      exact e
  · show isPt s i (2 * nI m)
    rw [ix2b]; exact q
end M16
