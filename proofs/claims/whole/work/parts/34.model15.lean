/-! ===== the reference: the best of ways to write ===== -/
def chS (tk : Nat → Int32) (dg : Nat → Nat) (a : Nat → Int32) : Nat → Option (Nat → Int32)
  | 0 => some a
  | w + 1 => match chS tk dg a w with
    | none => none
    | some b => if b (dg w) < tk w then none else some (upd b (dg w) (b (dg w) - tk w))
theorem chS_n {tk : Nat → Int32} {dg : Nat → Nat} {a : Nat → Int32} {w : Nat} (h : chS tk dg a w = none) : ∀ k, chS tk dg a (w + k) = none
  | 0 => h
  | k + 1 => by
    show (match chS tk dg a (w + k) with | none => none | some b => _) = none
    rw [chS_n h k]
def sbV (on : Nat → Int32) (n : Nat) : Option (Nat → Int32) → Int32
  | none => -1
  | some a => bitsI (stP on (posB a) n)
abbrev dgt (n m code w : Nat) : Nat := code / n ^ (m - 1 - w) % n
abbrev wtk (A : Nat → Nat → Int32) (r i : Nat) (ca : Nat → Nat) (w : Nat) : Int32 := tkN A (ca w) (A 703 (40 * r + (i + 2 * w + 1)))
theorem wrF_lo {a : Nat → Int32} {b c : Nat} {t l : Int32} (hb : b < 8) {j : Nat} (hj : j < 8) : wrF a b c t l j = upd a b (a b - t) j := by
  unfold wrF
  show (if j = 8 + c then _ else if j = 12 then _ else _) = _
  rw [if_neg (by omega), if_neg (by omega)]
theorem wrF_13 {a : Nat → Int32} {b c : Nat} {t l : Int32} (hb : b < 8) (hc : c < 4) : wrF a b c t l 13 = a 13 := by
  unfold wrF
  show (if 13 = 8 + c then _ else if 13 = 12 then _ else if 13 = b then _ else _) = _
  rw [if_neg (by omega), if_neg (by omega), if_neg (by omega)]
theorem pw512 {n k : Nat} (hn : n ≤ 8) (hk : k ≤ 3) : n ^ k ≤ 512 := Nat.le_trans (Nat.pow_le_pow_left hn k) (Nat.pow_le_pow_right (n := 8) (by omega) hk)
theorem pw4096 {n k : Nat} (hn : n ≤ 8) (hk : k ≤ 4) : n ^ k ≤ 4096 := Nat.le_trans (Nat.pow_le_pow_left hn k) (Nat.pow_le_pow_right (n := 8) (by omega) hk)
theorem m_writes2 {d x f b c : Nat} {h : hp} {I : Nat → Int32} {A : Nat → Nat → Int32} {kk : Rt} {lines cv bv : Int32} {w : Nat} (ec : cv = nI c) (eb : bv = nI b) (hw : w = hfR h f (x + 1)) (hS : MSh h (x + 1)) (hf : Mof f) (hb : b < 8) (hc : c < 4) (h0 : A f b < tkB (A 714 c) (A 713 c) lines (A f 13) → kk (some (.inl 0)) (MU h (x + 1) I A)) (h1 : ¬ A f b < tkB (A 714 c) (A 713 c) lines (A f 13) → kk (some (.inl 1)) (MU h (x + 1) I (va_up A f (wrF (A f) b c (tkB (A 714 c) (A 713 c) lines (A f 13)) lines)))) : CL (d + 3) mX7_writes 0 0 [.inr (.inr (8, x + 1)), .inr (.inr (20, w)), .inl cv, .inl lines, .inl bv] (MU h (x + 1) I A) kk := by
  subst ec; subst eb
  exact m_writes hw hS hf hb hc h0 h1
section M16
variable {d x n cm at' am by' tm : Nat} {h : hp} {I : Nat → Int32} {A : Nat → Nat → Int32} {kk : Rt} {rs : Nat → Option Nat}
set_option maxRecDepth 20000 in
theorem m_standingBy {r i m code : Nat} {ca : Nat → Nat} (hS : MSh h (x + 1)) (hn : I 707 = nI n) (n1 : 0 < n) (hn8 : n ≤ 8) (hr : r < 8) (hi : i + 2 * m ≤ 40) (m1 : 1 ≤ m) (m4 : m ≤ 4) (hca : ∀ w, w < m → A 703 (40 * r + (i + 2 * w)) = nI (ca w) ∧ ca w < 4) (hcd : code < 4096) (hk : ∀ A', EA A A' → kk (some (.inl (sbV (A 712) n (chS (wtk A r i ca) (dgt n m code) (A 715) m)))) (MU h (x + 1) I A')) : CL (d + 4) mX7_standingBy 0 0 [.inr (.inr (8, x + 1)), .inl (nI r), .inl (nI i), .inl (nI m), .inl (nI code)] (MU h (x + 1) I A) kk := by
  refine mw3 T_X7_standingBy (fun Wm go wk => go (cut1 10) 80 0 _ _ _ _ _ ?_)
  refine m_copyNow hS ?_
  have hE0 := EA.u6 A (va_cpy (A 715) (A 716) 0 0 14)
  have hC0 : ∀ j, j < 14 → va_up A 716 (va_cpy (A 715) (A 716) 0 0 14) 716 j = A 715 j := by
    intro j hj
    rw [va_up_self]
    unfold va_cpy
    rw [if_pos (by omega)]
    congr 1
    omega
  generalize va_up A 716 (va_cpy (A 715) (A 716) 0 0 14) = C0 at *
  have e7 : ∀ C, hfI (MU h (x + 1) I C) 707 (x + 1) = nI n := fun C => (MU_fI _ _ _ _ _).trans hn
  have L2 : ∀ w, w ≤ m → ∀ C a, EA A C → chS (wtk A r i ca) (dgt n m code) (A 715) w = some a → (∀ j, j < 8 → C 716 j = a j) → C 716 13 = A 715 13 → Wm 34 [some (.inr (.inr (8, x + 1))), some (.inl (nI r)), some (.inl (nI i)), some (.inl (nI m)), some (.inl (nI code)), some (.inl (nI (n ^ (m - 1 - w)))), some (.inl (nI w))] [] (MU h (x + 1) I C) 0 0 := by
    refine upto (n := m) (fun w hw ih C a hE ha h8 h13 => ?_)
    have pw := pw512 hn8 (show m - 1 - w ≤ 3 by omega)
    have pw0 : 0 < n ^ (m - 1 - w) := Nat.pow_pos n1
    refine go (cut2 34 104) 80 34 _ _ _ _ _ ?_
    refine icg rfl rfl (by omega) (by omega) (fun c => ?_) (fun c => ?_)
    · have e : w = m := by omega
      subst e
      refine m_standing rfl hS hn hn8 (Or.inr rfl) ?_
      have e : stP (C 712) (posB (C 716)) n = stP (A 712) (posB a) n := by
        rw [hE 712 (by decide) (by decide)]
        refine stP_congr (fun k hk => ⟨rfl, ?_⟩)
        show decide _ = decide _
        rw [h8 k (by omega)]
      rw [e]
      refine m_bitsI ?_ (kki (hk C hE) ?_ rfl)
      · have := in_and hn8 (on := A 712) (p := posB a) (-1)
        rw [show stP (A 712) (posB a) n &&& (-1) = stP (A 712) (posB a) n from by simp] at this
        exact this
      · rw [ha]; rfl
    · have i703 : C 703 = A 703 := hE 703 (by decide) (by decide)
      refine m_itemAt hS hr (j := i + 2 * w) (by omega) (ix2 i w) ?_
      refine m_itemAt hS hr (j := i + 2 * w + 1) (by omega) (by show nI i + 2 * nI w + 1 = _; rw [ix2]; exact nI_1 _) ?_
      have hm31 : (2 : Nat) ^ 31 = 2147483648 := rfl
      have edv : nI code / nI (n ^ (m - 1 - w)) = nI (code / n ^ (m - 1 - w)) := pk_div (by omega) (by omega) (by omega)
      refine And.intro (fun z => absurd ((nI_eq (b := 0) (by omega) (by omega)).mp z) (by omega)) ?_
      refine And.intro (fun z => absurd ((nI_eq (b := 0) (by omega) (by omega)).mp ((e7 _).symm.trans z)) (by omega)) ?_
      have q1 : C 703 (40 * r + (i + 2 * w)) = nI (ca w) := by rw [i703]; exact (hca w c).1
      have dlt : code / n ^ (m - 1 - w) ≤ code := Nat.div_le_self _ _
      have dg8 : dgt n m code w < n := Nat.mod_lt _ n1
      have hq : tkB (C 714 (ca w)) (C 713 (ca w)) (C 703 (40 * r + (i + 2 * w + 1))) (C 716 13) = wtk A r i ca w := by
        rw [hE 714 (by decide) (by decide), hE 713 (by decide) (by decide), i703, h13]
      refine m_writes2 (c := ca w) (b := dgt n m code w) q1 ?_ rfl hS (Or.inr rfl) (by omega) (hca w c).2 (fun y => br0 ?_) (fun y => br1 ?_)
      · show nI code / nI (n ^ (m - 1 - w)) - nI code / nI (n ^ (m - 1 - w)) / hfI (MU h (x + 1) I C) 707 (x + 1) * hfI (MU h (x + 1) I C) 707 (x + 1) = _
        rw [e7, edv]
        exact pk_rem (by omega) n1 (by omega)
      · rw [hq, h8 _ (by omega)] at y
        have e0 : chS (wtk A r i ca) (dgt n m code) (A 715) (w + 1) = none := by
          show (match chS (wtk A r i ca) (dgt n m code) (A 715) w with | none => none | some b => _) = none
          rw [ha]
          exact if_pos y
        have e1 := chS_n e0 (m - (w + 1))
        rw [show w + 1 + (m - (w + 1)) = m by omega] at e1
        have := hk C hE
        rw [e1] at this
        exact this
      · rw [hq, h8 _ (by omega)] at y
        rw [hq]
        have e0 : chS (wtk A r i ca) (dgt n m code) (A 715) (w + 1) = some (upd a (dgt n m code w) (a (dgt n m code w) - wtk A r i ca w)) := by
          show (match chS (wtk A r i ca) (dgt n m code) (A 715) w with | none => none | some b => _) = _
          rw [ha]
          exact if_neg y
        have e2 := ih c (va_up C 716 (wrF (C 716) (dgt n m code w) (ca w) (wtk A r i ca w) (C 703 (40 * r + (i + 2 * w + 1))))) _ (hE.tr (EA.u6 _ _)) e0 (fun j hj => ?_) ?_
        · have fin : ∀ v : Int32, v = nI (n ^ (m - 1 - (w + 1))) → Wm 104 [some (.inr (.inr (8, x + 1))), some (.inl (nI r)), some (.inl (nI i)), some (.inl (nI m)), some (.inl (nI code)), none, some (.inl (nI w))] [.inl v] (MU h (x + 1) I (va_up C 716 (wrF (C 716) (dgt n m code w) (ca w) (wtk A r i ca w) (C 703 (40 * r + (i + 2 * w + 1)))))) 0 0 := by
            intro v hv
            subst hv
            refine go (cut1 34) 80 104 _ _ _ _ _ ?_
            rw [← nI_1 w] at e2
            exact e2
          refine And.intro (fun z => ?_) (fun z => ?_)
          · refine wk _ _ _ _ _ _ _ (fin _ ?_) (by repeat (first | exact ln | refine l0 ?_ | refine l1 rfl ?_))
            have z : n ^ (m - 1 - w) ≤ 1 := (nI_leI (b := 1) (by omega) (by omega)).mp z
            have : n ^ (m - 1 - (w + 1)) ≤ n ^ (m - 1 - w) := Nat.pow_le_pow_right n1 (by omega)
            have h2 : 0 < n ^ (m - 1 - (w + 1)) := Nat.pow_pos n1
            rw [show n ^ (m - 1 - (w + 1)) = 1 by omega]
            rfl
          · have z : ¬ nI (n ^ (m - 1 - w)) ≤ nI 1 := z
            have z : ¬ n ^ (m - 1 - w) ≤ 1 := fun q => z ((nI_leI (by omega) (by omega)).mpr q)
            have hne : m - 1 - w ≠ 0 := fun q => z (by rw [q]; exact Nat.le_refl 1)
            refine And.intro (fun z => absurd ((nI_eq (b := 0) (by omega) (by omega)).mp ((e7 _).symm.trans z)) (by omega)) ?_
            refine wk _ _ _ _ _ _ _ (fin _ ?_) (by repeat (first | exact ln | refine l0 ?_ | refine l1 rfl ?_))
            rw [e7]
            show nI (n ^ (m - 1 - w)) / nI n = _
            rw [pk_div (by omega) n1 (by omega)]
            congr 1
            rw [show m - 1 - w = (m - 1 - (w + 1)) + 1 by omega, Nat.pow_succ]
            exact Nat.mul_div_cancel _ n1
        · rw [va_up_self, wrF_lo (by omega) hj]
          show (if j = _ then _ else _) = (if j = _ then _ else _)
          rw [h8 _ (by omega), h8 _ hj]
        · rw [va_up_self, wrF_13 (by omega) (hca w c).2]
          exact h13
  have L1 := upto (n := m - 1) (P := fun k => Wm 10 [some (.inr (.inr (8, x + 1))), some (.inl (nI r)), some (.inl (nI i)), some (.inl (nI m)), some (.inl (nI code)), some (.inl (nI (n ^ k))), some (.inl (nI (k + 1)))] [] (MU h (x + 1) I C0) 0 0) (fun k hk1 ih => ?_) 0 (Nat.zero_le _)
  · exact L1
  · refine go (cut2 10 34) 80 10 _ _ _ _ _ ?_
    refine icg rfl rfl (by omega) (by omega) (fun c => ?_) (fun c => ?_)
    · have e : k = m - 1 := by omega
      have := L2 0 (Nat.zero_le _) C0 (A 715) hE0 rfl (fun j hj => hC0 j (by omega)) (hC0 13 (by omega))
      rw [Nat.sub_zero, ← e] at this
      exact this
    · have e := ih (by omega)
      rw [← nI_1 (k + 1), Nat.pow_succ, ← pk_mul] at e
      refine wmc (Wm := Wm) e ?_ rfl
      rw [e7]
      rfl
end M16
