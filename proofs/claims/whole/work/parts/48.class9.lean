/-! ===== the class: fractions ===== -/
theorem half_mod {D R k : Nat} (h0 : 0 < R) (h1 : R < D) (h2 : D < 2 ^ (k + 1)) : D % R < 2 ^ k := by
  have hm := Nat.mod_lt D h0
  have e : 2 ^ (k + 1) = 2 ^ k * 2 := Nat.pow_succ 2 k
  have := Nat.mod_add_div D R
  have hq : 1 ≤ D / R := Nat.div_pos (by omega) h0
  have : R ≤ R * (D / R) := Nat.le_mul_of_pos_right R hq
  omega
section C10
variable {d y n cm : Nat} {H : hp} {K : Nat → Nat} {V W : Nat → Nat → Int32} {kk : Rt}
theorem c_power {h : hp} {a0 : Int64} {t0 : Int32} {t : Nat} {p : Nat} (ha : a0 = lN p) (et : t0 = nI t) (ht : t ≤ 100) (hk : kk (some (.inr (.inl (lN (p ^ t))))) h) : CL d mX6_power 0 0 [.inr (.inl a0), .inl t0] h kk := by
  subst ha
  subst et
  refine mw3 T_X6_power (fun Wm go wk => go (cut1 5) 60 0 _ _ _ _ _ ?_)
  refine upto (n := t) (P := fun k => Wm 5 [some (.inr (.inl (lN p))), none, some (.inl (nI t)), some (.inr (.inl (lN (p ^ k)))), none, some (.inl (nI k))] [] h 0 0) (fun k hk' ih => ?_) 0 (Nat.zero_le _)
  refine go (cut1 5) 60 5 _ _ _ _ _ ?_
  refine icg rfl rfl (by omega) (by omega) (fun z => ?_) (fun z => ?_)
  · have e : k = t := by omega
    subst e
    exact hk
  · have e := ih z
    rw [Nat.pow_succ, ← lN_mul, ← nI_1] at e
    exact e
theorem c_lowestTerms {h : hp} {a b : Nat} {a0 b0 : Int64} {wh : Int32} (ha0 : a0 = lN a) (hb0 : b0 = lN b) (ha : a < 2 ^ 62) (hb : b < 2 ^ 45) (h0 : a = 0 → kk (some (.inr (.inl wh.toInt64))) h) (h1 : 0 < a → kk (some (.inr (.inl (lN ((if wh = 0 then a else b) / Nat.gcd a b))))) h) : CL d mX6_lowestTerms 0 0 [.inr (.inl a0), .inr (.inl b0), .inl wh] h kk := by
  subst ha0; subst hb0
  refine mw3 T_X6_lowestTerms (fun Wm go wk => go (cut2 10 19) 60 0 _ _ _ _ _ ?_)
  refine lcmp0 (by omega) (fun z => ?_) (fun z => ?_)
  · exact h0 z
  have h1 := h1 z
  have g0 : 0 < Nat.gcd a b := Nat.gcd_pos_of_pos_left b z
  have fin : ∀ D, D = Nat.gcd a b → Wm 54 [some (.inr (.inl (lN a))), none, some (.inr (.inl (lN b))), none, some (.inl wh), some (.inr (.inl (lN D))), none, none, none, none, none, none] [] h 0 0 := by
    intro D hD
    subst hD
    have gl : Nat.gcd a b ≤ a := Nat.gcd_le_left b z
    refine go cut0 60 54 _ _ _ _ _ ?_
    refine lcmp0 (by omega) (fun q => by omega) (fun q => ?_)
    refine And.intro (fun w => ?_) (fun w => ?_)
    · have w : wh = 0 := w
      rw [if_pos w] at h1
      refine And.intro (lne rfl g0 (by omega)) ?_
      refine kkc h1 ?_ rfl
      show some (Sum.inr (Sum.inl (lN a / lN (Nat.gcd a b)))) = _
      rw [pk_lDiv (by omega) g0 (by omega)]
    · have w : ¬ wh = 0 := w
      rw [if_neg w] at h1
      refine And.intro (lne rfl g0 (by omega)) ?_
      refine kkc h1 ?_ rfl
      show some (Sum.inr (Sum.inl (lN b / lN (Nat.gcd a b)))) = _
      rw [pk_lDiv (by omega) g0 (by omega)]
  have key : ∀ k D R i, R < 2 ^ k → D < 2 ^ 62 → i + 2 * k ≤ 100 → Nat.gcd D R = Nat.gcd a b → Wm 19 [some (.inr (.inl (lN a))), none, some (.inr (.inl (lN b))), none, some (.inl wh), some (.inr (.inl (lN D))), none, some (.inr (.inl (lN R))), none, some (.inl (nI i)), none, none] [] h 0 0 := by
    intro k
    induction k with
    | zero =>
      intro D R i hR hD hi hg
      have e : R = 0 := by have : R < 1 := hR; omega
      subst e
      rw [Nat.gcd_zero_right] at hg
      refine go (cut1 54) 60 19 _ _ _ _ _ ?_
      refine icg (b := 100) rfl rfl (by omega) (by omega) (fun q => wk _ _ _ _ _ _ _ (fin D hg) (by repeat (first | exact ln | refine l0 ?_ | refine l1 rfl ?_))) (fun q => ?_)
      exact lcmp0 (q := 0) (by decide) (fun _ => wk _ _ _ _ _ _ _ (fin D hg) (by repeat (first | exact ln | refine l0 ?_ | refine l1 rfl ?_))) (fun q => absurd q (Nat.lt_irrefl 0))
    | succ k ih =>
      intro D R i hR hD hi hg
      have hk45 : k + 1 ≤ 50 := by omega
      have pk : 2 ^ (k + 1) ≤ 2 ^ 50 := Nat.pow_le_pow_right (by omega) hk45
      have p50 : (2 : Nat) ^ 50 < 2 ^ 62 := by decide
      have p62 : (2 : Nat) ^ 62 < 2 ^ 63 := by decide
      have R63 : R < 2 ^ 62 := Nat.lt_of_lt_of_le hR (Nat.le_of_lt (Nat.lt_of_le_of_lt pk p50))
      refine go (cut2 19 54) 60 19 _ _ _ _ _ ?_
      refine icg (b := 100) rfl rfl (by omega) (by omega) (fun q => by omega) (fun q => ?_)
      refine lcmp0 (Nat.lt_trans R63 p62) (fun q0 => ?_) (fun q0 => ?_)
      · subst q0
        rw [Nat.gcd_zero_right] at hg
        exact wk _ _ _ _ _ _ _ (fin D hg) (by repeat (first | exact ln | refine l0 ?_ | refine l1 rfl ?_))
      · refine And.intro (lne rfl q0 (Nat.lt_trans R63 p62)) ?_
        have g1 : Nat.gcd R (D % R) = Nat.gcd a b := by rw [Nat.gcd_comm R, ← Nat.gcd_rec, Nat.gcd_comm]; exact hg
        have hm := Nat.mod_lt D q0
        have step : Wm 19 [some (.inr (.inl (lN a))), none, some (.inr (.inl (lN b))), none, some (.inl wh), some (.inr (.inl (lN R))), none, some (.inr (.inl (lN (D % R)))), none, some (.inl (nI (i + 1))), none, none] [] h 0 0 := by
          generalize D % R = R1 at *
          have R163 : R1 < 2 ^ 63 := Nat.lt_trans (Nat.lt_trans hm R63) p62
          refine go (cut2 19 54) 60 19 _ _ _ _ _ ?_
          refine icg (b := 100) rfl rfl (by omega) (by omega) (fun q => by omega) (fun q => ?_)
          refine lcmp0 R163 (fun q1 => ?_) (fun q1 => ?_)
          · subst q1
            rw [Nat.gcd_zero_right] at g1
            exact wk _ _ _ _ _ _ _ (fin R g1) (by repeat (first | exact ln | refine l0 ?_ | refine l1 rfl ?_))
          · refine And.intro (lne rfl q1 R163) ?_
            have g2 : Nat.gcd R1 (R % R1) = Nat.gcd a b := by rw [Nat.gcd_comm R1, ← Nat.gcd_rec, Nat.gcd_comm]; exact g1
            have e := ih R1 (R % R1) (i + 1 + 1) (half_mod q1 hm hR) (Nat.lt_trans hm R63) (by omega) g2
            rw [← pk_lRem (Nat.lt_trans R63 p62) q1 R163, ← nI_1 (i + 1)] at e
            exact wk _ _ _ _ _ _ _ e (by repeat (first | exact ln | refine l0 ?_ | refine l1 rfl ?_))
        rw [← pk_lRem (Nat.lt_trans hD p62) q0 (Nat.lt_trans R63 p62), ← nI_1 i] at step
        exact wk _ _ _ _ _ _ _ step (by repeat (first | exact ln | refine l0 ?_ | refine l1 rfl ?_))
  refine go (cut1 19) 60 10 _ _ _ _ _ ?_
  exact key 45 a b 0 hb ha (by omega) rfl
theorem c_share {cl wh : Int32} {lo : Nat → Nat} {sa : Nat} (hS : CS H K (y + 1)) (hn : Pn H (hfR H 604 (y + 1)) n cm) (hlo : ∀ c, c < cm → W 200 c = nI (lo c) ∧ lo c ≤ sa) (hsa : smI (W 200) 4 = nI sa) (hsb : sa < 2 ^ 30) (hb : ¬ (inB cl cm ∧ inB wh 2) → kk (some (.inl eBAD)) (CU H K V W))
    (hg : ∀ c, c < cm → cl = nI c → inB wh 2 → kk (some (.inl (if lo c = 0 then wh else nI ((if wh = 0 then lo c else sa) / Nat.gcd (lo c) sa)))) (CU H K V W)) : CL (d + 3) mX6_share 0 0 [.inr (.inr (7, y + 1)), .inl cl, .inl wh] (CU H K V W) kk := by
  have c4 := hn.2.2
  obtain ⟨⟨a1, a2, a3⟩, -, ⟨a7, a8, a9⟩⟩ := hS.now
  refine mw T_X6_share (fun Wm go => go cut0 60 0 _ _ _ _ _ ?_)
  refine nz hS.pl.1.1 ?_
  refine c_hasClerk (CU_e _ _ _ _ _ _) hS.pl hn (fun q1 => br1 ?_) (fun q1 => br0 (hb (fun z => q1 z.1)))
  refine c_isBelow (m := 2) rfl (by omega) (fun q2 => br1 ?_) (fun q2 => br0 (hb (fun z => q2 z.2)))
  obtain ⟨c, hc, rfl⟩ := inB_of q1 (by omega)
  have hg := hg c hc rfl q2
  obtain ⟨l1', l2'⟩ := hlo c hc
  refine nz a1 ?_
  refine cld a7 a8 (by decide) a9 (by omega) c rfl (by omega) ?_
  refine nz a1 ?_
  refine c_allLines (CU_e _ _ _ _ _ _) hS.now ?_
  have p30 : (2 : Nat) ^ 30 < 2 ^ 45 := by decide
  have p31 : (2 : Nat) ^ 30 < 2 ^ 62 := by decide
  have p32 : (2 : Nat) ^ 30 < 2 ^ 31 := by decide
  refine c_lowestTerms (a := lo c) (b := sa) ?_ ?_ (by omega) (by omega) (fun z => ?_) (fun z => ?_)
  · show (W 200 c).toInt64 = _
    rw [l1']; exact nI_l (by omega)
  · show (smI (W 200) 4).toInt64 = _
    rw [hsa]; exact nI_l (by omega)
  · rw [if_pos z] at hg
    exact kki hg (Int32.toInt32_toInt64 wh) rfl
  · rw [if_neg (by omega)] at hg
    exact kki hg (lN_i _) rfl
/-- the cases, as the class counts them -/
def caN (H : hp) (p n : Nat) (W : Nat → Nat → Int32) (q b : Nat) : Nat → Nat
  | 0 => 0
  | k + 1 => caN H p n W q b k + (if hasB (stX H p n W (nI k)) (nI b) then q ^ pc8 k * (10 - q) ^ (n - pc8 k) else 0)
set_option maxRecDepth 20000 in
theorem c_rains {bl pp wh : Int32} (hS : CS H K (y + 1)) (hn : Pn H (hfR H 604 (y + 1)) n cm) (hpc : ∀ k, k < 2 ^ n → pc8 k ≤ n) (hca : ∀ q b, q ≤ 10 → caN H (hfR H 604 (y + 1)) n W q b (2 ^ n) < 2 ^ 62) (hb : ¬ (inB bl n ∧ inR pp 0 10 ∧ inB wh 2) → kk (some (.inr (.inl (-1000001)))) (CU H K V W))
    (hg : ∀ b q C, b < n → bl = nI b → q ≤ 10 → pp = nI q → inB wh 2 → C = caN H (hfR H 604 (y + 1)) n W q b (2 ^ n) → kk (some (.inr (.inl (if C = 0 then wh.toInt64 else lN ((if wh = 0 then C else 10 ^ n) / Nat.gcd C (10 ^ n)))))) (CU H K V W)) : CL (d + 3) mX6_rains 0 0 [.inr (.inr (7, y + 1)), .inl bl, .inl pp, .inl wh] (CU H K V W) kk := by
  have n8 := hn.1.2
  have h256 := p256 n8
  refine mw3 T_X6_rains (fun Wm go wk => go (cut1 48) 80 0 _ _ _ _ _ ?_)
  refine nz hS.pl.1.1 ?_
  refine c_hasBlock (CU_e _ _ _ _ _ _) hS.pl hn (fun q1 => br1 ?_) (fun q1 => br0 (hb (fun z => q1 z.1)))
  refine And.intro (fun q2 => hb (fun z => Int32.not_lt.mpr z.2.1.1 q2)) (fun q2 => And.intro (fun q3 => hb (fun z => Int32.not_lt.mpr z.2.1.2 q3)) (fun q3 => ?_))
  refine c_isBelow (m := 2) rfl (by omega) (fun q4 => br1 ?_) (fun q4 => br0 (hb (fun z => q4 z.2.2)))
  obtain ⟨b, hbn, rfl⟩ := inB_of q1 (by omega)
  obtain ⟨q, -, hq, rfl⟩ := inR_n (a := 0) (b := 10) (by omega) ⟨Int32.not_lt.mp q2, Int32.not_lt.mp q3⟩ (by omega)
  refine nz hS.now.1.1 ?_
  refine c_withChalk (CU_e _ _ _ _ _ _) hS.now ?_
  have hca := hca q b hq
  have hg := hg b q _ hbn rfl hq rfl q4 rfl
  obtain ⟨p, hp⟩ : ∃ p, p = hfR H 604 (y + 1) := ⟨_, rfl⟩
  rw [← hp] at hg hca
  have p7 : ∀ V W, hfI (CU H K V W) 102 (hfR (CU H K V W) 604 (y + 1)) = nI n := fun V W => (CU_fIo hS.pl.1.2).trans hn.1.1
  refine upto (n := 2 ^ n) (P := fun k => Wm 48 [some (.inr (.inr (7, y + 1))), some (.inl (nI b)), some (.inl (nI q)), some (.inl wh), some (.inl (mkS (posB (W 100)) 8)), some (.inr (.inl (lN (caN H p n W q b k)))), none, some (.inl (nI k)), none] [] (CU H K V W) 0 0) (fun k hk ih => ?_) 0 (Nat.zero_le _)
  refine go (cut2 48 122) 80 48 _ _ _ _ _ ?_
  refine nz hS.pl.1.1 ?_
  refine icg (b := 2 ^ n) rfl (by rw [p7]; exact shl_n n n8) (by omega) (by omega) (fun z => ?_) (fun z => ?_)
  · have e : k = 2 ^ n := by omega
    refine nz hS.pl.1.1 ?_
    refine c_power (p := 10) (t := n) rfl (p7 V W) (by omega) ?_
    have t8 : 10 ^ n ≤ 10 ^ 8 := Nat.pow_le_pow_right (by omega) n8
    have t45 : (10 : Nat) ^ 8 < 2 ^ 45 := by decide
    rw [← e] at hca
    have hg : kk (some (.inr (.inl (if caN H p n W q b k = 0 then wh.toInt64 else lN ((if wh = 0 then caN H p n W q b k else 10 ^ n) / Nat.gcd (caN H p n W q b k) (10 ^ n)))))) (CU H K V W) := by rw [e]; exact hg
    refine c_lowestTerms (a := caN H p n W q b k) (b := 10 ^ n) rfl rfl hca (by omega) (fun z => ?_) (fun z => ?_)
    · rw [if_pos z] at hg
      exact hg
    · rw [if_neg (by omega)] at hg
      exact hg
  · have ih := ih z
    rw [← nI_1 k] at ih
    refine nz hS.pl.1.1 ?_
    refine c_standingX (set := nI k) (c := W 100) rfl (CU_e _ _ _ _ _ _) hS.pl hn ?_
    have hs : caN H p n W q b (k + 1) = caN H p n W q b k + (if hasB (stX H p n W (nI k)) (nI b) then q ^ pc8 k * (10 - q) ^ (n - pc8 k) else 0) := rfl
    rw [hs] at ih
    refine And.intro (fun w => ?_) (fun w => ?_)
    · have w : hasB (stX H p n W (nI k)) (nI b) := by rw [hp]; exact w
      rw [if_pos w] at ih
      have i1 : ∃ m, m < 256 ∧ nI k = nI m := ⟨k, by omega, rfl⟩
      refine c_bitCount i1 ?_
      have eb : bitsI (nI k) = nI (pc8 k) := by unfold bitsI; rw [nI_clamp (by omega)]
      have hpk := hpc k z
      refine c_power (p := q) (t := pc8 k) (nI_l (by omega)) eb (by omega) ?_
      refine nz hS.pl.1.1 ?_
      refine c_power (p := 10 - q) (t := n - pc8 k) ?_ ?_ (by omega) ?_
      · show ((10 : Int32) - nI q).toInt64 = _
        rw [show (10 : Int32) = nI 10 from rfl, pk_sub hq]
        exact nI_l (by omega)
      · rw [p7]
        show nI n - bitsI (nI k) = _
        rw [eb, pk_sub hpk]
      · rw [← lN_add, ← lN_mul] at ih
        refine go (cut1 48) 40 122 _ _ _ _ _ ?_
        exact wk _ _ _ _ _ _ _ ih (by repeat (first | exact ln | refine l0 ?_ | refine l1 rfl ?_))
    · have w : ¬ hasB (stX H p n W (nI k)) (nI b) := by rw [hp]; exact w
      rw [if_neg w, Nat.add_zero] at ih
      refine go (cut1 48) 40 122 _ _ _ _ _ ?_
      exact wk _ _ _ _ _ _ _ ih (by repeat (first | exact ln | refine l0 ?_ | refine l1 rfl ?_))
end C10
