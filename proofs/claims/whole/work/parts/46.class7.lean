/-! ===== the class: foretold ===== -/
/-- the lines at once, as the class finds them -/
def laF (tk : Nat → Int32) (ch : Int32) : Nat → Nat
  | 0 => 0
  | l + 1 => if tk (l + 1) ≤ ch then l + 1 else laF tk ch l
theorem laF_le (tk : Nat → Int32) (ch : Int32) : ∀ l, laF tk ch l ≤ l
  | 0 => Nat.le_refl 0
  | l + 1 => by
    have := laF_le tk ch l
    show (if tk (l + 1) ≤ ch then l + 1 else laF tk ch l) ≤ l + 1
    split
    · exact Nat.le_refl _
    · omega
/-- the longest, as the class finds it: (most, first) -/
def loF (l : Nat → Nat) : Nat → Nat × Nat
  | 0 => (0, 0)
  | k + 1 => if (loF l k).1 < l k then (l k, k) else loF l k
section C8
variable {d y n cm at' am by' : Nat} {H : hp} {K : Nat → Nat} {V W : Nat → Nat → Int32} {kk : Rt}
theorem c_left {cl : Int32} (hS : CS H K (y + 1)) (hn : Pn H (hfR H 604 (y + 1)) n cm) (hb : ¬ inB cl cm → kk (some (.inl eBAD)) (CU H K V W)) (h1 : ∀ c, c < cm → 1 ≤ tkC H (hfR H 604 (y + 1)) V c 1)
    (hg : ∀ c, c < cm → cl = nI c → kk (some (.inl (smI (fun k => W 100 k / tkC H (hfR H 604 (y + 1)) V c 1) n))) (CU H K V W)) : CL (d + 3) mX6_left 0 0 [.inr (.inr (7, y + 1)), .inl cl] (CU H K V W) kk := by
  have n8 := hn.1.2
  have c4 := hn.2.2
  obtain ⟨⟨a1, a2, a3⟩, ⟨a4, a5, a6⟩, -⟩ := hS.now
  have ed : ∀ V W, hfI (CU H K V W) 503 (hfR (CU H K V W) 605 (y + 1)) = V 503 10 := fun V W => CU_fI a2 (by decide)
  refine mw T_X6_left (fun Wm go => go (cut2 31 43) 80 0 _ _ _ _ _ ?_)
  refine nz hS.pl.1.1 ?_
  refine c_hasClerk (CU_e _ _ _ _ _ _) hS.pl hn (fun q1 => br1 ?_) (fun q1 => br0 (hb q1))
  obtain ⟨c, hc, rfl⟩ := inB_of q1 (by omega)
  refine nz a1 (nz hS.pl.1.1 ?_)
  refine c_chalkFor (CU_e _ _ _ _ _ _) hS.pl (by omega) ?_
  rw [ed]
  have h1 := h1 c hc
  have hg := hg c hc rfl
  show Wm 31 [some (.inr (.inr (7, y + 1))), some (.inl (nI c)), some (.inl (tkC H (hfR H 604 (y + 1)) V c 1)), none, none] [] (CU H K V W) 0 0
  generalize tkC H (hfR H 604 (y + 1)) V c 1 = tk at *
  refine go (cut1 43) 80 31 _ _ _ _ _ ?_
  refine And.intro (fun _ => ?_) (fun z => absurd h1 z)
  refine upto (n := n) (P := fun k => Wm 43 [some (.inr (.inr (7, y + 1))), some (.inl (nI c)), some (.inl tk), some (.inl (smI (fun k => W 100 k / tk) k)), some (.inl (nI k))] [] (CU H K V W) 0 0) (fun k hk ih => ?_) 0 (Nat.zero_le _)
  refine go (cut1 43) 80 43 _ _ _ _ _ ?_
  refine nz hS.pl.1.1 ?_
  refine icg rfl ((CU_fIo hS.pl.1.2).trans hn.1.1) (by omega) (by omega) (fun z => ?_) (fun z => ?_)
  · have e : k = n := by omega
    subst e
    exact hg
  · refine nz a1 ?_
    refine cld a4 a5 (by decide) a6 (by omega) k rfl (by omega) ?_
    refine And.intro (fun z0 => ?_) ?_
    · subst z0; exact absurd h1 (by decide)
    · have e := ih z
      rw [← nI_1] at e
      exact e
theorem c_linesAtOnce {c : Nat} {ch : Int32} (hS : CS H K (y + 1)) (hc : c < 4) (hk : kk (some (.inl (nI (laF (fun l => tkC H (hfR H 604 (y + 1)) V c (nI l)) ch 30)))) (CU H K V W)) : CL (d + 3) mX6_linesAtOnce 0 0 [.inr (.inr (7, y + 1)), .inl (nI c), .inl ch] (CU H K V W) kk := by
  obtain ⟨⟨a1, a2, a3⟩, -⟩ := hS.now
  have ed : ∀ V W, hfI (CU H K V W) 503 (hfR (CU H K V W) 605 (y + 1)) = V 503 10 := fun V W => CU_fI a2 (by decide)
  refine mw3 T_X6_linesAtOnce (fun Wm go wk => go (cut1 5) 80 0 _ _ _ _ _ ?_)
  refine upto (n := 30) (P := fun l => Wm 5 [some (.inr (.inr (7, y + 1))), some (.inl (nI c)), some (.inl ch), some (.inl (nI (laF (fun l => tkC H (hfR H 604 (y + 1)) V c (nI l)) ch l))), some (.inl (nI (l + 1)))] [] (CU H K V W) 0 0) (fun l hl ih => ?_) 0 (Nat.zero_le _)
  refine go (cut1 5) 80 5 _ _ _ _ _ ?_
  refine And.intro (fun z => ?_) (fun z => ?_)
  · have z : nI 30 < nI (l + 1) := z
    have z : 30 < l + 1 := Nat.not_le.mp (fun y => Int32.not_lt.mpr ((nI_leI (by omega) (by omega)).mpr y) z)
    have e : l = 30 := by omega
    subst e
    exact hk
  · have z : ¬ nI 30 < nI (l + 1) := z
    have z : l + 1 ≤ 30 := (nI_leI (by omega) (by omega)).mp (Int32.not_lt.mp z)
    have ih := ih (by omega)
    rw [← nI_1 (l + 1)] at ih
    refine nz a1 (nz hS.pl.1.1 ?_)
    refine c_chalkFor (CU_e _ _ _ _ _ _) hS.pl hc ?_
    rw [ed]
    have hs : laF (fun l => tkC H (hfR H 604 (y + 1)) V c (nI l)) ch (l + 1) = if tkC H (hfR H 604 (y + 1)) V c (nI (l + 1)) ≤ ch then l + 1 else laF (fun l => tkC H (hfR H 604 (y + 1)) V c (nI l)) ch l := rfl
    rw [hs] at ih
    refine And.intro (fun q => ?_) (fun q => ?_)
    · have q : ch < tkC H (hfR H 604 (y + 1)) V c (nI (l + 1)) := q
      rw [if_neg (Int32.not_le.mpr q)] at ih
      exact ih
    · have q : ¬ ch < tkC H (hfR H 604 (y + 1)) V c (nI (l + 1)) := q
      rw [if_pos (Int32.not_lt.mp q)] at ih
      exact ih
theorem loF_le {l : Nat → Nat} (hl : ∀ k, l k ≤ 30) : ∀ k, (loF l k).1 ≤ 30 ∧ (loF l k).2 ≤ k
  | 0 => ⟨Nat.zero_le _, Nat.le_refl _⟩
  | k + 1 => by
    have := loF_le hl k
    show (if (loF l k).1 < l k then (l k, k) else loF l k : Nat × Nat).1 ≤ 30 ∧ (if (loF l k).1 < l k then (l k, k) else loF l k : Nat × Nat).2 ≤ k + 1
    split
    · exact ⟨hl k, Nat.le_succ k⟩
    · exact ⟨this.1, by omega⟩
theorem c_longest {cl wh : Int32} (hS : CS H K (y + 1)) (hn : Pn H (hfR H 604 (y + 1)) n cm) (hb : ¬ (inB cl cm ∧ inB wh 2) → kk (some (.inl eBAD)) (CU H K V W))
    (hg : ∀ c L, c < cm → cl = nI c → inB wh 2 → L = (fun k => laF (fun l => tkC H (hfR H 604 (y + 1)) V c (nI l)) (W 100 k) 30) → kk (some (.inl (if wh = 0 then nI (loF L n).1 else nI (loF L n).2))) (CU H K V W)) : CL (d + 4) mX6_longest 0 0 [.inr (.inr (7, y + 1)), .inl cl, .inl wh] (CU H K V W) kk := by
  have n8 := hn.1.2
  have c4 := hn.2.2
  obtain ⟨⟨a1, a2, a3⟩, ⟨a4, a5, a6⟩, -⟩ := hS.now
  refine mw3 T_X6_longest (fun Wm go wk => go (cut1 30) 80 0 _ _ _ _ _ ?_)
  refine nz hS.pl.1.1 ?_
  refine c_hasClerk (CU_e _ _ _ _ _ _) hS.pl hn (fun q1 => br1 ?_) (fun q1 => br0 (hb (fun z => q1 z.1)))
  refine c_isBelow (m := 2) rfl (by omega) (fun q2 => br1 ?_) (fun q2 => br0 (hb (fun z => q2 z.2)))
  obtain ⟨c, hc, rfl⟩ := inB_of q1 (by omega)
  have hg := fun L => hg c L hc rfl q2
  have hg := hg _ rfl
  generalize hL : (fun k => laF (fun l => tkC H (hfR H 604 (y + 1)) V c (nI l)) (W 100 k) 30) = L at hg
  have hL30 : ∀ k, L k ≤ 30 := fun k => by rw [← hL]; exact laF_le _ _ _
  refine upto (n := n) (P := fun k => Wm 30 [some (.inr (.inr (7, y + 1))), some (.inl (nI c)), some (.inl wh), some (.inl (nI (loF L k).1)), some (.inl (nI (loF L k).2)), some (.inl (nI k)), none] [] (CU H K V W) 0 0) (fun k hk ih => ?_) 0 (Nat.zero_le _)
  refine go (cut1 30) 80 30 _ _ _ _ _ ?_
  refine nz hS.pl.1.1 ?_
  refine icg rfl ((CU_fIo hS.pl.1.2).trans hn.1.1) (by omega) (by omega) (fun z => ?_) (fun z => ?_)
  · have e : k = n := by omega
    subst e
    refine And.intro (fun w => ?_) (fun w => ?_)
    · have w : wh = 0 := w
      rw [if_pos w] at hg
      exact hg
    · have w : ¬ wh = 0 := w
      rw [if_neg w] at hg
      exact hg
  · have ih := ih z
    rw [← nI_1 k] at ih
    refine nz a1 ?_
    refine cld a4 a5 (by decide) a6 (by omega) k rfl (by omega) ?_
    refine c_linesAtOnce hS (by omega) ?_
    have hs : loF L (k + 1) = if (loF L k).1 < L k then (L k, k) else loF L k := rfl
    have eL : laF (fun l => tkC H (hfR H 604 (y + 1)) V c (nI l)) (W 100 k) 30 = L k := by rw [← hL]
    have le1 := (loF_le hL30 k).1
    have le2 := hL30 k
    refine And.intro (fun q => ?_) (fun q => ?_)
    · have q : nI (laF (fun l => tkC H (hfR H 604 (y + 1)) V c (nI l)) (W 100 k) 30) ≤ nI (loF L k).1 := q
      rw [eL] at q
      have q : L k ≤ (loF L k).1 := (nI_leI (by omega) (by omega)).mp q
      rw [hs, if_neg (by omega)] at ih
      exact wk _ _ _ _ _ _ _ ih (by repeat (first | exact ln | refine l0 ?_ | refine l1 rfl ?_))
    · have q : ¬ nI (laF (fun l => tkC H (hfR H 604 (y + 1)) V c (nI l)) (W 100 k) 30) ≤ nI (loF L k).1 := q
      rw [eL] at q
      have q : ¬ L k ≤ (loF L k).1 := fun z => q ((nI_leI (by omega) (by omega)).mpr z)
      rw [hs, if_pos (by omega), ← eL] at ih
      exact wk _ _ _ _ _ _ _ ih (by repeat (first | exact ln | refine l0 ?_ | refine l1 rfl ?_))
end C8
