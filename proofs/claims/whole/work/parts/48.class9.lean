/-! ===== the class: fractions ===== -/
theorem half_mod {D R k : Nat} (h0 : 0 < R) (h1 : R < D) (h2 : D < 2 ^ (k + 1)) : D % R < 2 ^ k := by
  have hm := Nat.mod_lt D h0
  have e : 2 ^ (k + 1) = 2 ^ k * 2 := Nat.pow_succ 2 k
  have := Nat.mod_add_div D R
  have hq : 1 ≤ D / R := Nat.div_pos (by omega) h0
  have : R ≤ R * (D / R) := Nat.le_mul_of_pos_right R hq
  omega
section C10
variable {d y n cm : Nat} {H : hp} {K : Nat → Nat} {V W : Nat → Nat → Int32} {kk : Rt}
theorem c_power {h : hp} {a0 : Int64} {t : Nat} {p : Nat} (ha : a0 = lN p) (ht : t ≤ 100) (hk : kk (some (.inr (.inl (lN (p ^ t))))) h) : CL d mX6_power 0 0 [.inr (.inl a0), .inl (nI t)] h kk := by
  subst ha
  refine mw3 T_X6_power (fun Wm go wk => go (cut1 5) 60 0 _ _ _ _ _ ?_)
  refine upto (n := t) (P := fun k => Wm 5 [some (.inr (.inl (lN p))), none, some (.inl (nI t)), some (.inr (.inl (lN (p ^ k)))), none, some (.inl (nI k))] [] h 0 0) (fun k hk' ih => ?_) 0 (Nat.zero_le _)
  refine go (cut1 5) 60 5 _ _ _ _ _ ?_
  refine icg rfl rfl (by omega) (by omega) (fun z => ?_) (fun z => ?_)
  · have e : k = t := by omega
    subst e
    exact hk
  · have e := ih z
    rw [Nat.pow_succ, ← lN_mul, ← nI_1] at e
    exact e
theorem c_lowestTerms {h : hp} {a b : Nat} {a0 b0 : Int64} {wh : Int32} (ha0 : a0 = lN a) (hb0 : b0 = lN b) (ha : a < 2 ^ 62) (hb : b < 2 ^ 45) (h0 : a = 0 → kk (some (.inr (.inl wh.toInt64))) h) (h1 : 0 < a → kk (some (.inr (.inl (lN ((if wh = 0 then a else b) / Nat.gcd a b))))) h) : CL d mX6_lowestTerms 0 0 [.inr (.inl a0), .inr (.inl b0), .inl wh] h kk := by
  subst ha0; subst hb0
  refine mw3 T_X6_lowestTerms (fun Wm go wk => go (cut2 10 19) 60 0 _ _ _ _ _ ?_)
  refine lcmp0 (by omega) (fun z => ?_) (fun z => ?_)
  · exact h0 z
  have h1 := h1 z
  have g0 : 0 < Nat.gcd a b := Nat.gcd_pos_of_pos_left b z
  have fin : ∀ D, D = Nat.gcd a b → Wm 54 [some (.inr (.inl (lN a))), none, some (.inr (.inl (lN b))), none, some (.inl wh), some (.inr (.inl (lN D))), none, none, none, none, none, none] [] h 0 0 := by
    intro D hD
    subst hD
    have gl : Nat.gcd a b ≤ a := Nat.gcd_le_left b z
    refine go cut0 60 54 _ _ _ _ _ ?_
    refine lcmp0 (by omega) (fun q => by omega) (fun q => ?_)
    refine And.intro (fun w => ?_) (fun w => ?_)
    · have w : wh = 0 := w
      rw [if_pos w] at h1
      refine And.intro (lne rfl g0 (by omega)) ?_
      refine kkc h1 ?_ rfl
      show some (Sum.inr (Sum.inl (lN a / lN (Nat.gcd a b)))) = _
      rw [pk_lDiv (by omega) g0 (by omega)]
    · have w : ¬ wh = 0 := w
      rw [if_neg w] at h1
      refine And.intro (lne rfl g0 (by omega)) ?_
      refine kkc h1 ?_ rfl
      show some (Sum.inr (Sum.inl (lN b / lN (Nat.gcd a b)))) = _
      rw [pk_lDiv (by omega) g0 (by omega)]
  have key : ∀ k D R i, R < 2 ^ k → D < 2 ^ 62 → i + 2 * k ≤ 100 → Nat.gcd D R = Nat.gcd a b → Wm 19 [some (.inr (.inl (lN a))), none, some (.inr (.inl (lN b))), none, some (.inl wh), some (.inr (.inl (lN D))), none, some (.inr (.inl (lN R))), none, some (.inl (nI i)), none, none] [] h 0 0 := by
    intro k
    induction k with
    | zero =>
      intro D R i hR hD hi hg
      have e : R = 0 := by have : R < 1 := hR; omega
      subst e
      rw [Nat.gcd_zero_right] at hg
      refine go (cut1 54) 60 19 _ _ _ _ _ ?_
      refine icg (b := 100) rfl rfl (by omega) (by omega) (fun q => wk _ _ _ _ _ _ _ (fin D hg) (by repeat (first | exact ln | refine l0 ?_ | refine l1 rfl ?_))) (fun q => ?_)
      exact lcmp0 (q := 0) (by decide) (fun _ => wk _ _ _ _ _ _ _ (fin D hg) (by repeat (first | exact ln | refine l0 ?_ | refine l1 rfl ?_))) (fun q => absurd q (Nat.lt_irrefl 0))
    | succ k ih =>
      intro D R i hR hD hi hg
      have hk45 : k + 1 ≤ 50 := by omega
      have pk : 2 ^ (k + 1) ≤ 2 ^ 50 := Nat.pow_le_pow_right (by omega) hk45
      have p50 : (2 : Nat) ^ 50 < 2 ^ 62 := by decide
      have p62 : (2 : Nat) ^ 62 < 2 ^ 63 := by decide
      have R63 : R < 2 ^ 62 := Nat.lt_of_lt_of_le hR (Nat.le_of_lt (Nat.lt_of_le_of_lt pk p50))
      refine go (cut2 19 54) 60 19 _ _ _ _ _ ?_
      refine icg (b := 100) rfl rfl (by omega) (by omega) (fun q => by omega) (fun q => ?_)
      refine lcmp0 (Nat.lt_trans R63 p62) (fun q0 => ?_) (fun q0 => ?_)
      · subst q0
        rw [Nat.gcd_zero_right] at hg
        exact wk _ _ _ _ _ _ _ (fin D hg) (by repeat (first | exact ln | refine l0 ?_ | refine l1 rfl ?_))
      · refine And.intro (lne rfl q0 (Nat.lt_trans R63 p62)) ?_
        have g1 : Nat.gcd R (D % R) = Nat.gcd a b := by rw [Nat.gcd_comm R, ← Nat.gcd_rec, Nat.gcd_comm]; exact hg
        have hm := Nat.mod_lt D q0
        have step : Wm 19 [some (.inr (.inl (lN a))), none, some (.inr (.inl (lN b))), none, some (.inl wh), some (.inr (.inl (lN R))), none, some (.inr (.inl (lN (D % R)))), none, some (.inl (nI (i + 1))), none, none] [] h 0 0 := by
          generalize D % R = R1 at *
          have R163 : R1 < 2 ^ 63 := Nat.lt_trans (Nat.lt_trans hm R63) p62
          refine go (cut2 19 54) 60 19 _ _ _ _ _ ?_
          refine icg (b := 100) rfl rfl (by omega) (by omega) (fun q => by omega) (fun q => ?_)
          refine lcmp0 R163 (fun q1 => ?_) (fun q1 => ?_)
          · subst q1
            rw [Nat.gcd_zero_right] at g1
            exact wk _ _ _ _ _ _ _ (fin R g1) (by repeat (first | exact ln | refine l0 ?_ | refine l1 rfl ?_))
          · refine And.intro (lne rfl q1 R163) ?_
            have g2 : Nat.gcd R1 (R % R1) = Nat.gcd a b := by rw [Nat.gcd_comm R1, ← Nat.gcd_rec, Nat.gcd_comm]; exact g1
            have e := ih R1 (R % R1) (i + 1 + 1) (half_mod q1 hm hR) (Nat.lt_trans hm R63) (by omega) g2
            rw [← pk_lRem (Nat.lt_trans R63 p62) q1 R163, ← nI_1 (i + 1)] at e
            exact wk _ _ _ _ _ _ _ e (by repeat (first | exact ln | refine l0 ?_ | refine l1 rfl ?_))
        rw [← pk_lRem (Nat.lt_trans hD p62) q0 (Nat.lt_trans R63 p62), ← nI_1 i] at step
        exact wk _ _ _ _ _ _ _ step (by repeat (first | exact ln | refine l0 ?_ | refine l1 rfl ?_))
  refine go (cut1 19) 60 10 _ _ _ _ _ ?_
  exact key 45 a b 0 hb ha (by omega) rfl
end C10
