/-! ===== the class: must, least fallen, layers ===== -/
/-- what falls without some BLOCKs -/
abbrev faX (H : hp) (p n : Nat) (W : Nat → Nat → Int32) (set : Int32) : Int32 := stC H p n W 0 &&& (stX H p n W set ^^^ (-1))
abbrev muC (H : hp) (p n : Nat) (W : Nat → Nat → Int32) (k : Nat) : Bool := decide (bitsI (stC H p n W 0) < (2 : Int32) * bitsI (faX H p n W (1 <<< (nI k &&& 31))))
abbrev usC (H : hp) (p n : Nat) (W : Nat → Nat → Int32) (k : Nat) : Int32 := smI (W 100) 8 - bitsI (stC H p n W 0 &&& (faX H p n W (nI k) ^^^ (-1)))
abbrev okC (H : hp) (p n : Nat) (W : Nat → Nat → Int32) (many bs : Int32) (k : Nat) : Bool := decide (nI k &&& (stC H p n W 0 ^^^ (-1)) = 0) && (decide (faX H p n W (nI k) &&& bs = 0) && !decide (usC H p n W k < many))
section C9
variable {d y n cm : Nat} {H : hp} {K : Nat → Nat} {V W : Nat → Nat → Int32} {kk : Rt}
theorem c_must (hS : CS H K (y + 1)) (hn : Pn H (hfR H 604 (y + 1)) n cm) (hs : n = 0 → kk (some (.inl eSTATE)) (CU H K V W)) (hg : 0 < n → kk (some (.inl (mkS (muC H (hfR H 604 (y + 1)) n W) n &&& stC H (hfR H 604 (y + 1)) n W 0))) (CU H K V W)) : CL (d + 3) mX6_must 0 0 [.inr (.inr (7, y + 1))] (CU H K V W) kk := by
  have n8 := hn.1.2
  refine mw T_X6_must (fun Wm go => go (cut1 25) 80 0 _ _ _ _ _ ?_)
  refine c_hasCastle hS hn (fun q => br1 ?_) (fun q => br0 (hs q))
  have hg := hg q
  refine c_standingNow hS hn ?_
  refine c_bitCount (in_st n8 _ _) ?_
  refine upto (n := n) (P := fun k => Wm 25 [some (.inr (.inr (7, y + 1))), some (.inl (stC H (hfR H 604 (y + 1)) n W 0)), some (.inl (bitsI (stC H (hfR H 604 (y + 1)) n W 0))), some (.inl (mkS (muC H (hfR H 604 (y + 1)) n W) k)), some (.inl (nI k))] [] (CU H K V W) 0 0) (fun k hk ih => ?_) 0 (Nat.zero_le _)
  refine go (cut1 25) 80 25 _ _ _ _ _ ?_
  refine nz hS.pl.1.1 ?_
  refine icg rfl ((CU_fIo hS.pl.1.2).trans hn.1.1) (by omega) (by omega) (fun z => ?_) (fun z => ?_)
  · have e : k = n := by omega
    subst e
    exact hg
  · have ih := ih z
    rw [← nI_1 k] at ih
    refine c_fallingWithout hS hn ?_
    refine c_bitCount (in_and n8 _) ?_
    refine And.intro (fun q => ?_) (fun q => ?_)
    · have q : (2 : Int32) * bitsI (faX H (hfR H 604 (y + 1)) n W (1 <<< (nI k &&& 31))) ≤ bitsI (stC H (hfR H 604 (y + 1)) n W 0) := q
      rw [mkS_0 (fun z => Int32.not_lt.mpr q (of_decide_eq_true z)), or_z] at ih
      exact ih
    · have q : ¬ (2 : Int32) * bitsI (faX H (hfR H 604 (y + 1)) n W (1 <<< (nI k &&& 31))) ≤ bitsI (stC H (hfR H 604 (y + 1)) n W 0) := q
      rw [mkS_1 (decide_eq_true (Int32.not_le.mp q))] at ih
      exact ih
theorem c_standingX {p p' : Nat} {v set : Int32} {c : Nat → Int32} (hv : v = mkS (posB c) 8 &&& (set ^^^ (-1))) (ep : p' = p) (hP : PP H K p) (hn : Pn H p n cm) (hk : kk (some (.inl (stP (pA H p 106) (fun k => posB c k && !decide (hasB set (nI k))) n))) (CU H K V W)) : CL d mX1_standing 0 0 [.inr (.inr (2, p')), .inl v] (CU H K V W) kk := by
  subst hv
  refine c_standing ep hP hn ?_
  rw [stX_e hn.1.2]
  exact hk
set_option maxRecDepth 20000 in
theorem c_leastFallen {many bs wh : Int32} (hS : CS H K (y + 1)) (hn : Pn H (hfR H 604 (y + 1)) n cm) (hs : n = 0 → kk (some (.inl eSTATE)) (CU H K V W)) (hb : 0 < n → ¬ (inR many 0 240 ∧ inB bs (2 ^ n) ∧ inB wh 2) → kk (some (.inl eBAD)) (CU H K V W))
    (hg : ∀ m R, 0 < n → inR many 0 240 → inB bs (2 ^ n) → inB wh 2 → m < 2 ^ n → stC H (hfR H 604 (y + 1)) n W 0 = nI m → R = lfS (okC H (hfR H 604 (y + 1)) n W many bs) (fun k => bitsI (faX H (hfR H 604 (y + 1)) n W (nI k))) (m + 1) → kk (some (.inl (if wh = 1 ∨ R.1 = eNONE then R.1 else R.2))) (CU H K V W)) : CL (d + 3) mX6_leastFallen 0 0 [.inr (.inr (7, y + 1)), .inl many, .inl bs, .inl wh] (CU H K V W) kk := by
  have n8 := hn.1.2
  have h256 := p256 n8
  refine mw3 T_X6_leastFallen (fun Wm go wk => go (cut1 83) 120 0 _ _ _ _ _ ?_)
  refine c_hasCastle hS hn (fun q => br1 ?_) (fun q => br0 (hs q))
  have hb := hb q
  refine And.intro (fun q1 => hb (fun z => Int32.not_lt.mpr z.1.1 q1)) (fun q1 => And.intro (fun q2 => hb (fun z => Int32.not_lt.mpr z.1.2 q2)) (fun q2 => ?_))
  have qr : inR many 0 240 := ⟨Int32.not_lt.mp q1, Int32.not_lt.mp q2⟩
  refine nz hS.pl.1.1 ?_
  refine c_areBlocks (CU_e _ _ _ _ _ _) hS.pl hn (fun q3 => br1 ?_) (fun q3 => br0 (hb (fun z => q3 z.2.1)))
  refine c_isBelow (m := 2) rfl (by omega) (fun q4 => br1 ?_) (fun q4 => br0 (hb (fun z => q4 z.2.2)))
  refine nz hS.now.1.1 ?_
  refine c_withChalk (CU_e _ _ _ _ _ _) hS.now ?_
  refine nz hS.pl.1.1 ?_
  refine c_standing (CU_e _ _ _ _ _ _) hS.pl hn ?_
  rw [stC_e n8]
  refine nz hS.now.1.1 ?_
  refine c_allChalk (CU_e _ _ _ _ _ _) hS.now ?_
  obtain ⟨m, hm, em⟩ := stP_in (on := pA H (hfR H 604 (y + 1)) 106) (p := posB (W 100)) n8
  have hg := fun R => hg m R q qr q3 q4 hm em
  have hg := hg _ rfl
  obtain ⟨p, hp⟩ : ∃ p, p = hfR H 604 (y + 1) := ⟨_, rfl⟩
  obtain ⟨ok, hok⟩ : ∃ ok, ok = okC H p n W many bs := ⟨_, rfl⟩
  obtain ⟨co, hco⟩ : ∃ co : Nat → Int32, co = fun k => bitsI (faX H p n W (nI k)) := ⟨_, rfl⟩
  have hg : kk (some (.inl (if wh = 1 ∨ (lfS ok co (m + 1)).1 = eNONE then (lfS ok co (m + 1)).1 else (lfS ok co (m + 1)).2))) (CU H K V W) := by rw [hok, hco, hp]; exact hg
  obtain ⟨st, hst⟩ : ∃ st, st = stC H p n W 0 := ⟨_, rfl⟩
  have em : st = nI m := by rw [hst, hp]; exact em
  have start : Wm 83 [some (.inr (.inr (7, y + 1))), some (.inl many), some (.inl bs), some (.inl wh), some (.inl (mkS (posB (W 100)) 8)), some (.inl st), some (.inl (smI (W 100) 8)), some (.inl (lfS ok co 0).2), some (.inl (lfS ok co 0).1), some (.inl (nI 0)), none, none, none] [] (CU H K V W) 0 0 := by
    refine upto (n := m + 1) (P := fun k => Wm 83 [some (.inr (.inr (7, y + 1))), some (.inl many), some (.inl bs), some (.inl wh), some (.inl (mkS (posB (W 100)) 8)), some (.inl st), some (.inl (smI (W 100) 8)), some (.inl (lfS ok co k).2), some (.inl (lfS ok co k).1), some (.inl (nI k)), none, none, none] [] (CU H K V W) 0 0) (fun k hk ih => ?_) 0 (Nat.zero_le _)
    refine go (cut3 83 174 192) 120 83 _ _ _ _ _ ?_
    refine And.intro (fun z => ?_) (fun z => ?_)
    · have z : st < nI k := z
      rw [em] at z
      have z : m < k := Nat.not_le.mp (fun y => Int32.not_lt.mpr ((nI_leI (by omega) (by omega)).mpr y) z)
      have e : k = m + 1 := by omega
      subst e
      refine And.intro (fun w => ?_) (fun w => And.intro (fun w2 => ?_) (fun w2 => ?_))
      · have w : wh = 1 := w
        rw [if_pos (Or.inl w)] at hg
        exact go cut0 40 192 _ _ _ _ _ hg
      · have w2 : (lfS ok co (m + 1)).1 = eNONE := w2
        rw [if_pos (Or.inr w2)] at hg
        exact go cut0 40 192 _ _ _ _ _ hg
      · have w : ¬ wh = 1 := w
        have w2 : ¬ (lfS ok co (m + 1)).1 = eNONE := w2
        rw [if_neg (fun z => z.elim w w2)] at hg
        exact hg
    · have z : ¬ st < nI k := z
      rw [em] at z
      have z : k ≤ m := (nI_leI (by omega) (by omega)).mp (Int32.not_lt.mp z)
      have ih := ih (by omega)
      rw [← nI_1 k] at ih
      have no : ¬ (ok k = true ∧ co k < (lfS ok co k).2) → Wm 174 [some (.inr (.inr (7, y + 1))), some (.inl many), some (.inl bs), some (.inl wh), some (.inl (mkS (posB (W 100)) 8)), some (.inl st), some (.inl (smI (W 100) 8)), some (.inl (lfS ok co k).2), some (.inl (lfS ok co k).1), some (.inl (nI k)), none, none, none] [] (CU H K V W) 0 0 := by
        intro hno
        rw [lfS_0 hno] at ih
        exact go (cut1 83) 40 174 _ _ _ _ _ ih
      have okk : ok k = true ↔ nI k &&& (st ^^^ (-1)) = 0 ∧ faX H p n W (nI k) &&& bs = 0 ∧ ¬ usC H p n W k < many := by
        rw [hok, hst]
        show (decide _ && (decide _ && !decide _)) = true ↔ _
        rw [Bool.and_eq_true, Bool.and_eq_true, decide_eq_true_iff, decide_eq_true_iff, Bool.not_eq_true', decide_eq_false_iff_not]
      refine And.intro (fun w1 => ?_) (fun w1 => no (fun z => w1 (okk.mp z.1).1))
      refine nz hS.pl.1.1 ?_
      refine c_standingX (set := nI k) (c := W 100) rfl (CU_e _ _ _ _ _ _) hS.pl hn ?_
      have cok : co k = bitsI (faX H p n W (nI k)) := by rw [hco]
      have efa : faX H p n W (nI k) = st &&& (stP (pA H (hfR H 604 (y + 1)) 106) (fun q => posB (W 100) q && !decide (hasB (nI k) (nI q))) n ^^^ (-1)) := by rw [hst, hp]
      have eus : usC H p n W k = smI (W 100) 8 - bitsI (st &&& (faX H p n W (nI k) ^^^ (-1))) := by rw [hst]
      rw [efa] at cok okk eus
      rw [eus] at okk
      generalize stP (pA H (hfR H 604 (y + 1)) 106) (fun q => posB (W 100) q && !decide (hasB (nI k) (nI q))) n = sx at *
      have i1 : ∀ v, ∃ m, m < 256 ∧ st &&& v = nI m := fun v => by rw [hst]; exact in_and n8 v
      refine c_bitCount (i1 _) ?_
      refine c_bitCount (i1 _) ?_
      refine And.intro (fun w2 => ?_) (fun w2 => wk _ _ _ _ _ _ _ (no (fun z => w2 (okk.mp z.1).2.1)) (by repeat (first | exact ln | refine l0 ?_ | refine l1 rfl ?_)))
      refine And.intro (fun w3 => wk _ _ _ _ _ _ _ (no (fun z => (okk.mp z.1).2.2 w3)) (by repeat (first | exact ln | refine l0 ?_ | refine l1 rfl ?_))) (fun w3 => ?_)
      refine And.intro (fun w4 => wk _ _ _ _ _ _ _ (no (fun z => ?_)) (by repeat (first | exact ln | refine l0 ?_ | refine l1 rfl ?_))) (fun w4 => ?_)
      · have w4 : (lfS ok co k).2 ≤ bitsI (st &&& (sx ^^^ (-1))) := w4
        rw [← cok] at w4
        exact Int32.not_lt.mpr w4 z.2
      · have w4 : ¬ (lfS ok co k).2 ≤ bitsI (st &&& (sx ^^^ (-1))) := w4
        rw [← cok] at w4
        rw [lfS_1 ⟨okk.mpr ⟨w1, w2, w3⟩, Int32.not_le.mp w4⟩, cok] at ih
        refine go (cut1 83) 40 174 _ _ _ _ _ ?_
        exact wk _ _ _ _ _ _ _ ih (by repeat (first | exact ln | refine l0 ?_ | refine l1 rfl ?_))
  rw [hst, hp] at start
  exact start
end C9
