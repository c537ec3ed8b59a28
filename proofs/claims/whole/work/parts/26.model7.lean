/-! ===== the reference: fractions, shares, centuries ===== -/
theorem lcmp0 {q : Nat} (hq : q < 2 ^ 63) {X Y : Prop} (a : q = 0 → X) (b : 0 < q → Y) : (lg_cmp (lN q) 0 = 0 → X) ∧ (¬ lg_cmp (lN q) 0 = 0 → Y) := by
  have key : lg_cmp (lN q) 0 = 0 ↔ q = 0 := by
    unfold lg_cmp
    constructor
    · intro h
      by_cases h1 : lN q > 0
      · rw [if_pos h1] at h; exact absurd h (by decide)
      · rw [if_neg h1] at h
        by_cases h2 : lN q = 0
        · exact (pk_lEQ hq (by omega)).mp (show lN q = lN 0 from h2)
        · rw [if_neg h2] at h; exact absurd h (by decide)
    · intro h
      subst h
      decide
  exact ⟨fun h => a (key.mp h), fun h => b (Nat.pos_of_ne_zero (fun z => h (key.mpr z)))⟩
theorem lcmpv {q : Nat} {v : Int64} (hv : v = lN q) (hq : q < 2 ^ 63) {X Y : Prop} (a : q = 0 → X) (b : 0 < q → Y) : (lg_cmp v 0 = 0 → X) ∧ (¬ lg_cmp v 0 = 0 → Y) := by
  subst hv
  exact lcmp0 hq a b
def prN (p k : Nat) : Nat → Nat
  | 0 => 1
  | j + 1 => prN p k j * (if hasB (nI k) (nI j) then p else 10 - p)
theorem prN_le {p k : Nat} (hp : p ≤ 10) : ∀ j, prN p k j ≤ 10 ^ j
  | 0 => Nat.le_refl _
  | j + 1 => by
    show _ * _ ≤ _
    rw [Nat.pow_succ]
    apply Nat.mul_le_mul (prN_le hp j)
    split <;> omega
abbrev abB (A : Nat → Nat → Int32) (n b k : Nat) : Prop := hasB (stW A n (nI k)) (nI b)
def abN (A : Nat → Nat → Int32) (n p b : Nat) : Nat → Nat
  | 0 => 0
  | k + 1 => abN A n p b k + (if abB A n b k then prN p k n else 0)
theorem abN_le {A : Nat → Nat → Int32} {n p b : Nat} (hp : p ≤ 10) : ∀ k, abN A n p b k ≤ k * 10 ^ n
  | 0 => by simp [abN]
  | k + 1 => by
    show _ + _ ≤ _
    rw [Nat.succ_mul]
    apply Nat.add_le_add (abN_le hp k)
    split
    · exact prN_le hp n
    · exact Nat.zero_le _
theorem p10 {n : Nat} (h : n ≤ 8) : 10 ^ n ≤ 10 ^ 8 := Nat.pow_le_pow_right (by omega) h
/-- one draw -/
abbrev drX (x : Nat) : Nat := x * 16807 % 2147483647
abbrev drW (A : Nat → Nat → Int32) (n cm y : Nat) (t : Nat → Int32) : Nat → Int32 := if cm = 0 then t else if t (y % n) < tkB (A 714 (y % cm)) (A 713 (y % cm)) (nI (y % 5 + 1)) (t 13) then t else wrF t (y % n) (y % cm) (tkB (A 714 (y % cm)) (A 713 (y % cm)) (nI (y % 5 + 1)) (t 13)) (nI (y % 5 + 1))
abbrev drR (A : Nat → Nat → Int32) (rain : Int32) (n y : Nat) (t : Nat → Int32) : Nat → Int32 := if y % 4 = 0 then rainF t (A 712) rain n n else t
abbrev drD (t : Nat → Int32) : Nat → Int32 := upd t 13 (t 13 + 1)
def drS (A : Nat → Nat → Int32) (rain : Int32) (n cm seed : Nat) (t0 : Nat → Int32) : Nat → Nat × (Nat → Int32)
  | 0 => (seed, t0)
  | k + 1 => (drX (drS A rain n cm seed t0 k).1, drD (drR A rain n (drX (drS A rain n cm seed t0 k).1) (drW A n cm (drX (drS A rain n cm seed t0 k).1) (drS A rain n cm seed t0 k).2)))
theorem drS_lt {A : Nat → Nat → Int32} {rain : Int32} {n cm seed : Nat} {t0 : Nat → Int32} (hs : seed < 2147483647) : ∀ k, (drS A rain n cm seed t0 k).1 < 2147483647
  | 0 => hs
  | k + 1 => Nat.mod_lt _ (by omega)
section M7
variable {d x n cm at' am by' tm : Nat} {h : hp} {I : Nat → Int32} {A : Nat → Nat → Int32} {kk : Rt}
theorem m_common {p q : Nat} {a0 b0 : Int64} (ha0 : a0 = lN p) (hb0 : b0 = lN q) (hp : p < 2 ^ 63) (hq : q < 2 ^ 63) (hk : kk (some (.inr (.inl (lN (Nat.gcd p q))))) h) : CL d mX7_common 0 0 [.inr (.inl a0), .inr (.inl b0)] h kk := by
  subst ha0; subst hb0
  refine mw3 T_X7_common (fun Wm go wk => go (cut1 6) 80 0 _ _ _ _ _ ?_)
  have key : ∀ N b a, b ≤ N → a < 2 ^ 63 → b < 2 ^ 63 → Nat.gcd a b = Nat.gcd p q → Wm 6 [some (.inr (.inl (lN p))), none, some (.inr (.inl (lN q))), none, some (.inr (.inl (lN a))), none, some (.inr (.inl (lN b))), none, none, none] [] h 0 0 := by
    intro N
    induction N with
    | zero =>
      intro b a hb ha hb63 hgcd
      refine go (cut1 6) 80 6 _ _ _ _ _ ?_
      have hb : b ≤ 0 := hb
      refine lcmp0 hb63 (fun z => ?_) (fun z => by omega)
      subst z
      rw [Nat.gcd_zero_right] at hgcd
      exact kkc hk (by rw [hgcd]) rfl
    | succ N ih =>
      intro b a hb ha hb63 hgcd
      refine go (cut1 6) 80 6 _ _ _ _ _ ?_
      refine lcmp0 hb63 (fun z => ?_) (fun z => ?_)
      · subst z
        rw [Nat.gcd_zero_right] at hgcd
        exact kkc hk (by rw [hgcd]) rfl
      · refine And.intro (fun w => ?_) ?_
        · have := (pk_lEQ hb63 (by omega)).mp (show lN b = lN 0 from w)
          omega
        · have hm := Nat.mod_lt a z
          have e := ih (a % b) b (by omega) hb63 (by omega) (by rw [Nat.gcd_comm b, ← Nat.gcd_rec, Nat.gcd_comm]; exact hgcd)
          rw [← pk_lRem ha z hb63] at e
          exact wk _ _ _ _ _ _ _ e (by repeat (first | exact ln | refine l0 ?_ | refine l1 rfl ?_))
  exact key q q p (Nat.le_refl _) hp hq rfl
theorem m_rains {bl p wh : Int32} (hS : MSh h (x + 1)) (hI : MIn I n cm at' am by' tm) (hb : ¬ (inB bl n ∧ inR p 0 10 ∧ inR wh 0 1) → kk (some (.inr (.inl (-1000001)))) (MU h (x + 1) I A))
    (hg : ∀ A' b q, b < n → bl = nI b → q ≤ 10 → p = nI q → inR wh 0 1 → EA A A' → kk (some (.inr (.inl (lN ((if wh = 0 then abN A n q b (2 ^ n) else 10 ^ n) / Nat.gcd (abN A n q b (2 ^ n)) (10 ^ n)))))) (MU h (x + 1) I A')) : CL (d + 2) mX7_rains 0 0 [.inr (.inr (8, x + 1)), .inl bl, .inl p, .inl wh] (MU h (x + 1) I A) kk := by
  obtain ⟨⟨hn, hn8⟩, -⟩ := hI
  have h256 := p256 hn8
  have h10 := p10 hn8
  refine mw3 T_X7_rains (fun Wm go wk => go (cut1 40) 80 0 _ _ _ _ _ ?_)
  refine m_isBlock hn hn8 (fun c1 => br1 ?_) (fun c1 => br0 (hb (fun z => c1 z.1)))
  refine m_in (fun c2 => br1 ?_) (fun c2 => br0 (hb (fun z => c2 z.2.1)))
  refine m_in (fun c3 => br1 ?_) (fun c3 => br0 (hb (fun z => c3 z.2.2)))
  obtain ⟨b, hbb, rfl⟩ := inB_of c1 (by omega)
  obtain ⟨q, hq10, rfl⟩ := nI_of2 (n := 10) (by decide) (Int32.not_lt.mpr c2.1) c2.2
  refine upto (n := n) (P := fun k => Wm 40 [some (.inr (.inr (8, x + 1))), some (.inl (nI b)), some (.inl (nI q)), some (.inl wh), some (.inr (.inl (lN 0))), none, some (.inr (.inl (lN (10 ^ k)))), none, some (.inl (nI k)), none, none, none] [] (MU h (x + 1) I A) 0 0) (fun k hkn ih => ?_) 0 (Nat.zero_le _)
  refine go (cut2 40 66) 90 40 _ _ _ _ _ ?_
  refine icg rfl ((MU_fI _ _ _ _ _).trans hn) (by omega) (by omega) (fun z => ?_) (fun z => ?_)
  · have e : k = n := by omega
    subst e
    refine upto (n := 2 ^ k) (P := fun j => ∀ A', EA A A' → Wm 66 [some (.inr (.inr (8, x + 1))), some (.inl (nI b)), some (.inl (nI q)), some (.inl wh), some (.inr (.inl (lN (abN A k q b j)))), none, some (.inr (.inl (lN (10 ^ k)))), none, some (.inl (nI j)), none, none, none] [] (MU h (x + 1) I A') 0 0) (fun j hj ih2 A' hE => ?_) 0 (Nat.zero_le _) A (EA.rf A)
    have e1 : (1 : Int32) <<< (hfI (MU h (x + 1) I A') 707 (x + 1) &&& 31) = nI (2 ^ k) := by rw [MU_fI, hn, shl_n k hn8]
    have hab : abN A k q b j ≤ 256 * 10 ^ 8 := Nat.le_trans (abN_le hq10 j) (Nat.mul_le_mul (by omega) h10)
    refine go (cut2 66 83) 90 66 _ _ _ _ _ ?_
    refine icg rfl e1 (by omega) (by omega) (fun w => ?_) (fun w => ?_)
    · have e : j = 2 ^ k := by omega
      subst e
      refine m_common rfl rfl (by omega) (by omega) ?_
      have g0 : 0 < Nat.gcd (abN A k q b (2 ^ k)) (10 ^ k) := Nat.gcd_pos_of_pos_right _ (Nat.pow_pos (by omega))
      have gle : Nat.gcd (abN A k q b (2 ^ k)) (10 ^ k) ≤ 10 ^ k := Nat.gcd_le_right _ (Nat.pow_pos (by omega))
      have gne : ¬ lN (Nat.gcd (abN A k q b (2 ^ k)) (10 ^ k)) = 0 := fun z => by
        have := (pk_lEQ (by omega) (by omega)).mp (show lN _ = lN 0 from z)
        omega
      have r := hg A' b q hbb rfl hq10 rfl c3 hE
      refine And.intro (fun w0 => And.intro gne ?_) (fun w0 => And.intro gne ?_)
      · rw [if_pos w0] at r
        exact kkc r (by show some (Sum.inr (Sum.inl (_ / _))) = _; rw [pk_lDiv (by omega) g0 (by omega)]) rfl
      · rw [if_neg w0] at r
        exact kkc r (by show some (Sum.inr (Sum.inl (_ / _))) = _; rw [pk_lDiv (by omega) g0 (by omega)]) rfl
    · refine upto (n := k) (P := fun i => Wm 83 [some (.inr (.inr (8, x + 1))), some (.inl (nI b)), some (.inl (nI q)), some (.inl wh), some (.inr (.inl (lN (abN A k q b j)))), none, some (.inr (.inl (lN (10 ^ k)))), none, some (.inl (nI j)), some (.inr (.inl (lN (prN q j i)))), none, some (.inl (nI i))] [] (MU h (x + 1) I A') 0 0) (fun i hi ih3 => ?_) 0 (Nat.zero_le _)
      refine go (cut2 66 83) 90 83 _ _ _ _ _ ?_
      refine icg rfl ((MU_fI _ _ _ _ _).trans hn) (by omega) (by omega) (fun w2 => ?_) (fun w2 => ?_)
      · have e : i = k := by omega
        subst e
        refine m_standingWithout hS hn hn8 (fun A2 hE2 => ?_)
        have eA : stW A' i (nI j) = stW A i (nI j) := by
          show stP (A' 712) (fun j => posB (A' 715) j && _) i = _
          rw [hE 712 (by decide) (by decide), hE 715 (by decide) (by decide)]
        rw [eA]
        refine m_has (fun c5 => br1 ?_) (fun c5 => br0 ?_)
        · have e := ih2 w A2 (hE.tr hE2)
          rw [show abN A i q b (j + 1) = abN A i q b j + prN q j i by show _ + (if _ then _ else _) = _; rw [if_pos c5], ← lN_add, ← nI_1] at e
          exact wk _ _ _ _ _ _ _ e (by repeat (first | exact ln | refine l0 ?_ | refine l1 rfl ?_))
        · have e := ih2 w A2 (hE.tr hE2)
          rw [show abN A i q b (j + 1) = abN A i q b j + 0 by show _ + (if _ then _ else _) = _; rw [if_neg c5], ← lN_add, ← nI_1] at e
          exact wk _ _ _ _ _ _ _ e (by repeat (first | exact ln | refine l0 ?_ | refine l1 rfl ?_))
      · refine m_has (fun c5 => br1 ?_) (fun c5 => br0 ?_)
        · have e := ih3 w2
          rw [show prN q j (i + 1) = prN q j i * q by show _ * (if _ then _ else _) = _; rw [if_pos c5], ← lN_mul, ← nI_l (n := q) (by omega), ← nI_1 i] at e
          exact e
        · have e := ih3 w2
          rw [show prN q j (i + 1) = prN q j i * (10 - q) by show _ * (if _ then _ else _) = _; rw [if_neg c5], ← lN_mul, ← nI_l (n := 10 - q) (by omega), ← pk_sub hq10, ← nI_1 i] at e
          exact e
  · have e := ih z
    rw [Nat.pow_succ, ← lN_mul, ← nI_1] at e
    exact e
theorem m_share {cl wh : Int32} {lo : Nat → Nat} {sa : Nat} (hS : MSh h (x + 1)) (hI : MIn I n cm at' am by' tm) (hlo : ∀ c, c < cm → A 715 (8 + c) = nI (lo c) ∧ lo c ≤ sa) (hsa : smI (fun k => A 715 (8 + k)) cm = nI sa) (hsb : sa < 2 ^ 30) (hb : ¬ (inB cl cm ∧ inR wh 0 1) → kk (some (.inl eBAD)) (MU h (x + 1) I A))
    (hg : ∀ c, c < cm → cl = nI c → inR wh 0 1 → kk (some (.inl (if sa = 0 then (if wh = 0 then 0 else 1) else nI ((if wh = 0 then lo c else sa) / Nat.gcd (lo c) sa)))) (MU h (x + 1) I A)) : CL (d + 2) mX7_share 0 0 [.inr (.inr (8, x + 1)), .inl cl, .inl wh] (MU h (x + 1) I A) kk := by
  obtain ⟨⟨hn, hn8⟩, ⟨hc, hc4⟩, -⟩ := hI
  refine mw3 T_X7_share (fun Wm go wk => go cut0 80 0 _ _ _ _ _ ?_)
  refine m_isClerk hc (by omega) (fun c1 => br1 ?_) (fun c1 => br0 (hb (fun z => c1 z.1)))
  refine m_in (fun c2 => br1 ?_) (fun c2 => br0 (hb (fun z => c2 z.2)))
  obtain ⟨c, hcc, rfl⟩ := inB_of c1 (by omega)
  obtain ⟨l1, l2⟩ := hlo c hcc
  refine m_allLines hS hc hc4 ?_
  rw [hsa]
  refine mldk (f := 715) hS (by decide) (8 + c) (nI_add 8 c) (by show 8 + c < 14; omega) ?_
  rw [l1]
  have r := hg c hcc rfl c2
  refine And.intro (fun z => ?_) (fun z => ?_)
  · have e : sa = 0 := (nI_eq (by omega) (by omega)).mp (show nI sa = nI 0 from z)
    have e2 : lo c = 0 := by omega
    rw [if_pos e] at r
    refine And.intro (fun w => And.intro (by decide) ?_) (fun w => And.intro (fun _ => ?_) (fun w2 => absurd z w2))
    · rw [if_pos w] at r
      exact kki r (by show nI (lo c) / 1 = 0; rw [e2]; decide) rfl
    · rw [if_neg w] at r
      exact r
  · have e : sa ≠ 0 := fun q => z (by show nI sa = 0; rw [q]; rfl)
    rw [if_neg e] at r
    have g0 : 0 < Nat.gcd (lo c) sa := Nat.gcd_pos_of_pos_right _ (by omega)
    have gle : Nat.gcd (lo c) sa ≤ sa := Nat.gcd_le_right _ (by omega)
    refine m_common (nI_l (by omega)) (nI_l (by omega)) (by omega) (by omega) ?_
    have gne : ¬ (lN (Nat.gcd (lo c) sa)).toInt32 = 0 := fun q => by
      rw [lN_i] at q
      have := (nI_eq (by omega) (by omega)).mp (show nI _ = nI 0 from q)
      omega
    refine And.intro (fun w => And.intro gne ?_) (fun w => And.intro (fun w2 => absurd w2 z) (fun w2 => And.intro gne ?_))
    · rw [if_pos w] at r
      exact kki r (by show nI (lo c) / (lN _).toInt32 = _; rw [lN_i, pk_div (by omega) g0 (by omega)]) rfl
    · rw [if_neg w] at r
      exact kki r (by show nI sa / (lN _).toInt32 = _; rw [lN_i, pk_div (by omega) g0 (by omega)]) rfl
theorem lmod {y m : Nat} {a b : Int64} (ha : a = lN y) (hb : b = lN m) (hy : y < 2 ^ 63) (hm : 0 < m) (hm2 : m < 2 ^ 63) : a - a / b * b = lN (y % m) := by
  subst ha; subst hb
  exact pk_lRem hy hm hm2
theorem lne {m : Nat} {b : Int64} (hb : b = lN m) (hm : 0 < m) (hm2 : m < 2 ^ 63) : ¬ b = 0 := fun z => by
  rw [hb] at z
  have := (pk_lEQ hm2 (by omega)).mp (show lN _ = lN 0 from z)
  omega
theorem m_writesE {f b c : Nat} {ci bi li lines : Int32} (hci : ci = nI c) (hbi : bi = nI b) (hli : li = lines) {w : Nat} (hw : w = hfR h f (x + 1)) (hS : MSh h (x + 1)) (hf : Mof f) (hb : b < 8) (hc : c < 4) (h0 : A f b < tkB (A 714 c) (A 713 c) lines (A f 13) → kk (some (.inl 0)) (MU h (x + 1) I A)) (h1 : ¬ A f b < tkB (A 714 c) (A 713 c) lines (A f 13) → kk (some (.inl 1)) (MU h (x + 1) I (va_up A f (wrF (A f) b c (tkB (A 714 c) (A 713 c) lines (A f 13)) lines)))) : CL (d + 3) mX7_writes 0 0 [.inr (.inr (8, x + 1)), .inr (.inr (20, w)), .inl ci, .inl li, .inl bi] (MU h (x + 1) I A) kk := by
  subst hci; subst hbi; subst hli
  exact m_writes hw hS hf hb hc h0 h1
theorem m_drawn {nd sd wh : Int32} (hS : MSh h (x + 1)) (hI : MIn I n cm at' am by' tm) (hs : n = 0 → kk (some (.inl eSTATE)) (MU h (x + 1) I A)) (hb : 0 < n → ¬ (inR nd 0 60 ∧ inR sd 1 999999 ∧ inR wh 0 1) → kk (some (.inl eBAD)) (MU h (x + 1) I A))
    (hg : ∀ A' m s t0, 0 < n → m ≤ 60 → nd = nI m → 1 ≤ s → s ≤ 999999 → sd = nI s → inR wh 0 1 → EA A A' → (∀ j, j < 14 → t0 j = A 715 j) → kk (some (.inl (if wh = 0 then stP (A 712) (posB (drS A (I 710) n cm s t0 m).2) n else (drS A (I 710) n cm s t0 m).2 12 - A 715 12))) (MU h (x + 1) I A')) : CL (d + 4) mX7_drawn 0 0 [.inr (.inr (8, x + 1)), .inl nd, .inl sd, .inl wh] (MU h (x + 1) I A) kk := by
  obtain ⟨⟨hn, hn8⟩, ⟨hc, hc4⟩, -⟩ := hI
  refine mw3 T_X7_drawn (fun Wm go wk => go (cut1 54) 80 0 _ _ _ _ _ ?_)
  refine n0 ((MU_fI _ _ _ _ _).trans hn) hn8 (fun c => hs c) (fun c => ?_)
  refine m_in (fun c1 => br1 ?_) (fun c1 => br0 (hb c (fun z => c1 z.1)))
  refine m_in (fun c2 => br1 ?_) (fun c2 => br0 (hb c (fun z => c2 z.2.1)))
  refine m_in (fun c3 => br1 ?_) (fun c3 => br0 (hb c (fun z => c3 z.2.2)))
  obtain ⟨m, hm60, rfl⟩ := nI_of2 (n := 60) (by decide) (Int32.not_lt.mpr c1.1) c1.2
  obtain ⟨s, hs9, rfl⟩ := nI_of2 (n := 999999) (by decide) (Int32.not_lt.mpr (Int32.le_trans (by decide) c2.1)) c2.2
  have hs1 : 1 ≤ s := (nI_leI (a := 1) (by omega) (by omega)).mp c2.1
  refine m_copyNow hS ?_
  generalize hB : va_cpy (A 715) (A 716) 0 0 14 = t0
  have ht0 : ∀ k, k < 14 → t0 k = A 715 k := fun k hk => by
    rw [← hB]
    show (if 0 ≤ k ∧ k < 0 + 14 then A 715 (0 + (k - 0)) else _) = _
    rw [if_pos (by omega), Nat.zero_add, Nat.sub_zero]
  have start := upto (n := m) (P := fun k => Wm 54 [some (.inr (.inr (8, x + 1))), some (.inl (nI m)), some (.inl (nI s)), some (.inl wh), some (.inr (.inl (lN (drS A (I 710) n cm s t0 k).1))), none, some (.inl (nI k))] [] (MU h (x + 1) I (va_up A 716 (drS A (I 710) n cm s t0 k).2)) 0 0) (fun k hkm ih => ?_) 0 (Nat.zero_le _)
  · have e : (nI s).toInt64 = lN s := nI_l (by omega)
    rw [show (drS A (I 710) n cm s t0 0).1 = s from rfl, ← e] at start
    exact start
  refine go (cut2 54 72) 90 54 _ _ _ _ _ ?_
  have hX := drS_lt (A := A) (rain := I 710) (n := n) (cm := cm) (seed := s) (t0 := t0) (by omega) k
  refine icg rfl rfl (by omega) (by omega) (fun z => ?_) (fun z => ?_)
  · have e : k = m := by omega
    subst e
    have r := hg (va_up A 716 (drS A (I 710) n cm s t0 k).2) k s t0 c hm60 rfl hs1 hs9 rfl c3 (EA.u6 A _) ht0
    refine And.intro (fun w => ?_) (fun w => ?_)
    · rw [if_pos w] at r
      exact m_standing (f := 716) (MU_e _ _ _ _ _ _) hS hn hn8 (Or.inr rfl) r
    · rw [if_neg w] at r
      refine mldk (f := 716) hS (by decide) 12 rfl (by decide) ?_
      exact mldk (f := 715) hS (by decide) 12 rfl (by decide) r
  · generalize hT : drS A (I 710) n cm s t0 k = T at hX
    obtain ⟨X, t⟩ := T
    have hY : drX X < 2147483647 := Nat.mod_lt _ (by omega)
    have hnext := ih z
    rw [show drS A (I 710) n cm s t0 (k + 1) = (drX X, drD (drR A (I 710) n (drX X) (drW A n cm (drX X) t))) by
      show (drX (drS A (I 710) n cm s t0 k).1, drD (drR A (I 710) n (drX (drS A (I 710) n cm s t0 k).1) (drW A n cm (drX (drS A (I 710) n cm s t0 k).1) (drS A (I 710) n cm s t0 k).2))) = _
      rw [hT], ← nI_1] at hnext
    generalize hYe : drX X = Y at hY hnext
    have eY : lN X * 16807 - lN X * 16807 / 2147483647 * 2147483647 = lN Y := by
      rw [← hYe, show (16807 : Int64) = lN 16807 from rfl, lN_mul]
      have hX : X < 2147483647 := hX
      exact lmod rfl (show (2147483647 : Int64) = lN 2147483647 from rfl) (by omega) (by omega) (by omega)
    have at134 : ∀ u, u = drR A (I 710) n Y (drW A n cm Y t) → Wm 134 [some (.inr (.inr (8, x + 1))), some (.inl (nI m)), some (.inl (nI s)), some (.inl wh), some (.inr (.inl (lN Y))), none, some (.inl (nI k))] [] (MU h (x + 1) I (va_up A 716 u)) 0 0 := by
      intro u hu
      refine go (cut1 54) 90 134 _ _ _ _ _ ?_
      refine mldk (f := 716) hS (by decide) 13 rfl (by decide) ?_
      refine mstk (f := 716) hS (by decide) 13 rfl (by decide) ?_
      rw [← hu, ← bx_uu A 716 u] at hnext
      exact hnext
    have at115 : ∀ u, u = drW A n cm Y t → Wm 115 [some (.inr (.inr (8, x + 1))), some (.inl (nI m)), some (.inl (nI s)), some (.inl wh), some (.inr (.inl (lN Y))), none, some (.inl (nI k))] [] (MU h (x + 1) I (va_up A 716 u)) 0 0 := by
      intro u hu
      refine go (cut2 54 134) 90 115 _ _ _ _ _ ?_
      refine And.intro (by decide) ?_
      refine lcmpv (q := Y % 4) (lmod rfl (show (4 : Int64) = lN 4 from rfl) (by omega) (by omega) (by omega)) (by omega) (fun w => ?_) (fun w => ?_)
      · refine m_rainsOn716 (MU_e _ _ _ _ _ _) hS hn hn8 ?_
        rw [bx_uu]
        exact at134 _ (by subst hu; show _ = (if _ then _ else _); rw [if_pos w]; rfl)
      · exact at134 _ (by subst hu; show _ = (if _ then _ else _); rw [if_neg (by omega)])
    have ec : hfI (MU h (x + 1) I (va_up A 716 t)) 709 (x + 1) = nI cm := (MU_fI _ _ _ _ _).trans hc
    have en : hfI (MU h (x + 1) I (va_up A 716 t)) 707 (x + 1) = nI n := (MU_fI _ _ _ _ _).trans hn
    have at72 : Wm 72 [some (.inr (.inr (8, x + 1))), some (.inl (nI m)), some (.inl (nI s)), some (.inl wh), some (.inr (.inl (lN Y))), none, some (.inl (nI k))] [] (MU h (x + 1) I (va_up A 716 t)) 0 0 := by
      refine go (cut1 115) 90 72 _ _ _ _ _ ?_
      refine And.intro (fun w => ?_) (fun w => ?_)
      · have w : hfI (MU h (x + 1) I (va_up A 716 t)) 709 (x + 1) ≤ 0 := w
        rw [ec] at w
        have w0 := (nI_leI (b := 0) (by omega) (by omega)).mp w
        exact at115 t (by show _ = (if _ then _ else _); rw [if_pos (by omega)])
      · have w : ¬ hfI (MU h (x + 1) I (va_up A 716 t)) 709 (x + 1) ≤ 0 := w
        rw [ec] at w
        have w0 : 0 < cm := Nat.pos_of_ne_zero (fun q => w (by rw [q]; decide))
        have ec2 : (hfI (MU h (x + 1) I (va_up A 716 t)) 709 (x + 1)).toInt64 = lN cm := by rw [ec]; exact nI_l (by omega)
        have en2 : (hfI (MU h (x + 1) I (va_up A 716 t)) 707 (x + 1)).toInt64 = lN n := by rw [en]; exact nI_l (by omega)
        refine And.intro (lne ec2 w0 (by omega)) (And.intro (by decide) (And.intro (lne en2 c (by omega)) ?_))
        have hcm : Y % cm < cm := Nat.mod_lt _ w0
        have hnm : Y % n < n := Nat.mod_lt _ c
        have z1 : (lN Y - lN Y / (hfI (MU h (x + 1) I (va_up A 716 t)) 709 (x + 1)).toInt64 * (hfI (MU h (x + 1) I (va_up A 716 t)) 709 (x + 1)).toInt64).toInt32 = nI (Y % cm) := by rw [lmod rfl ec2 (by omega) w0 (by omega), lN_i]
        have z2 : (lN Y - lN Y / (hfI (MU h (x + 1) I (va_up A 716 t)) 707 (x + 1)).toInt64 * (hfI (MU h (x + 1) I (va_up A 716 t)) 707 (x + 1)).toInt64).toInt32 = nI (Y % n) := by rw [lmod rfl en2 (by omega) c (by omega), lN_i]
        have z3 : (lN Y - lN Y / 5 * 5).toInt32 + 1 = nI (Y % 5 + 1) := by rw [lmod rfl (show (5 : Int64) = lN 5 from rfl) (by omega) (by omega) (by omega), lN_i, nI_1]
        refine m_writesE (f := 716) z1 z2 z3 (MU_e _ _ _ _ _ _) hS (Or.inr rfl) (by omega) (by omega) (fun q => ?_) (fun q => ?_)
        · have q : t (Y % n) < tkB (A 714 (Y % cm)) (A 713 (Y % cm)) (nI (Y % 5 + 1)) (t 13) := q
          exact at115 t (by show _ = (if _ then _ else if _ then _ else _); rw [if_neg (by omega), if_pos q])
        · rw [bx_uu]
          have q : ¬ t (Y % n) < tkB (A 714 (Y % cm)) (A 713 (Y % cm)) (nI (Y % 5 + 1)) (t 13) := q
          exact at115 _ (by show _ = (if _ then _ else if _ then _ else _); rw [if_neg (by omega), if_neg q]; rfl)
    refine And.intro (by decide) ?_
    rw [← eY] at at72
    exact at72
end M7
