/-! ===== the class: from, the call ===== -/
def frK (q : Nat → Nat → Bool) (v : Nat → Int32) : Nat → Nat × Int32
  | 0 => (0, eNONE)
  | c + 1 => frL (q c) (v c) (frK q v c) 30
theorem frK_le (q : Nat → Nat → Bool) (v : Nat → Int32) : ∀ c, (frK q v c).1 ≤ 30 * c
  | 0 => Nat.le_refl _
  | c + 1 => by
    have := frK_le q v c
    have := frL_le (q c) (v c) (frK q v c) 30
    show (frL _ _ _ 30).1 ≤ _
    omega
/-- the answer, by the one BLOCK lessened -/
def frR (tk : Nat → Nat → Int32) (c it : Nat → Int32) (cm : Nat) : Option (Option Nat) → Nat × Int32
  | some (some b) => frK (fun e l => decide (tk e l = c b - it b)) (fun e => frV e b) cm
  | _ => (0, eNONE)
section C24
variable {d y n cm r s q : Nat} {H : hp} {K : Nat → Nat} {V W : Nat → Nat → Int32} {kk : Rt} {rs : Nat → Option Nat}
set_option maxRecDepth 20000 in
theorem c_from {rw' i wh : Int32} (hS : CS H K (y + 1)) (hn0 : Pn H (hfR H 604 (y + 1)) n cm) (hR : RLs V rs) (hs : n = 0 → kk (some (.inl eSTATE)) (CU H K V W)) (hb : 0 < n → ¬ (inB rw' 8 ∧ inB wh 2) → kk (some (.inl eBAD)) (CU H K V W))
    (hn : ∀ r, 0 < n → r < 8 → rw' = nI r → inB wh 2 → rs r = none → kk (some (.inl (-1000010 - 1))) (CU H K (up2 V 603 1 1) W))
    (hp : ∀ r s, 0 < n → r < 8 → rw' = nI r → inB wh 2 → rs r = some s → ¬ isPt s i (nI n) → kk (some (.inl (-1000010 - 2))) (CU H K (up2 V 603 1 2) W))
    (hg : ∀ r s i' R, 0 < n → r < 8 → rw' = nI r → inB wh 2 → rs r = some s → i = nI i' → i' + n ≤ s → R = frR (fun e l => tkC H (hfR H 604 (y + 1)) V e (nI l)) (W 100) (fun j => W (300 + r) (i' + j)) cm (olS (W 100) (fun j => W (300 + r) (i' + j)) n) → kk (some (.inl (if wh = 0 then nI R.1 else R.2))) (CU H K (up2 V 603 1 0) W)) : CL (d + 3) mX6_from 0 0 [.inr (.inr (7, y + 1)), .inl rw', .inl i, .inl wh] (CU H K V W) kk := by
  have n8 := hn0.1.2
  have c4 := hn0.2.2
  obtain ⟨r1, r2, r3⟩ := hS.rows
  obtain ⟨⟨a1, a2, a3⟩, ⟨a4, a5, a6⟩, -⟩ := hS.now
  have ed : ∀ V W, hfI (CU H K V W) 503 (hfR (CU H K V W) 605 (y + 1)) = V 503 10 := fun V W => CU_fI a2 (by decide)
  refine mw3 T_X6_from (fun Wm go wk => go (cut1 65) 80 0 _ _ _ _ _ ?_)
  refine c_hasCastle hS hn0 (fun q0 => br1 ?_) (fun q0 => br0 (hs q0))
  have hb := hb q0
  refine c_isBelow (m := 8) rfl (by omega) (fun q2 => br1 ?_) (fun q2 => br0 (hb (fun z => q2 z.1)))
  refine c_isBelow (m := 2) rfl (by omega) (fun q3 => br1 ?_) (fun q3 => br0 (hb (fun z => q3 z.2)))
  obtain ⟨r, hr, rfl⟩ := inB_of q2 (by omega)
  refine nz r1 (And.intro ?_ ?_)
  · show vp_in (nI r) (haL H (hfR H 600 (y + 1)))
    rw [r3]; exact vp_in_nI hr (by omega)
  have z2 : RW1 H K (rho H (y + 1) r) r := hS.rw r hr
  refine nz hS.pl.1.1 ?_
  refine nz (by rw [rho_e r hr]; exact z2.1) ?_
  have p7 : hfI (CU H K V W) 102 (hfR (CU H K V W) 604 (y + 1)) = nI n := (CU_fIo hS.pl.1.2).trans hn0.1.1
  refine c_lackOf (rho_e r hr) z2 (hR r hr) (fun z1 => ?_) (fun s z1 x6 w => ?_) (fun s z1 x6 w => ?_)
  · exact And.intro (fun c => absurd c (by decide)) (fun _ => c_found hS (hn r q0 hr rfl q3 z1))
  · exact And.intro (fun c => absurd c (by decide)) (fun _ => c_found hS (hp r s q0 hr rfl q3 z1 (fun w2 => w (by rw [p7]; exact w2))))
  refine And.intro (fun _ => ?_) (fun c => absurd rfl c)
  rw [p7] at w
  obtain ⟨i', rfl, hi'⟩ := isPt_of w (by omega)
  have hg := hg r s i' _ q0 hr rfl q3 z1 rfl hi' rfl
  refine wmc (Wm := Wm) (L' := [some (.inr (.inr (7, y + 1))), some (.inl (nI r)), some (.inl (nI i')), some (.inl wh), some (.inr (.inr (4, rho H (y + 1) r))), some (.inl 0), none, none, none, none, none, none]) ?_ (by rw [← rho_e (K := K) (V := V) (W := W) r hr]; rfl) rfl
  generalize rho H (y + 1) r = q at *
  obtain ⟨x1, x2, ⟨x3, x4, x5⟩, x7⟩ := z2
  obtain ⟨it, hit⟩ : ∃ it : Nat → Int32, it = fun j => W (300 + r) (i' + j) := ⟨_, rfl⟩
  obtain ⟨tk, htk⟩ : ∃ tk : Nat → Nat → Int32, tk = fun e l => tkC H (hfR H 604 (y + 1)) V e (nI l) := ⟨_, rfl⟩
  rw [← hit, ← htk] at hg
  refine go (cut2 77 107) 80 65 _ _ _ _ _ ?_
  refine nz x1 ?_
  refine c_onlyLessened (a := hfR H 300 q) rfl hS hn0 ⟨x3, x4, x5⟩ hr (Nat.le_refl 40) (by omega) ?_
  rw [← hit]
  -- the end
  have fin : ∀ R : Nat × Int32, kk (some (.inl (if wh = 0 then nI R.1 else R.2))) (CU H K (up2 V 603 1 0) W) → Wm 204 [some (.inr (.inr (7, y + 1))), none, none, some (.inl wh), none, none, none, none, some (.inl (nI R.1)), some (.inl R.2), none, none] [] (CU H K V W) 0 0 := by
    intro R hR
    refine go (cut1 216) 40 204 _ _ _ _ _ ?_
    refine And.intro (fun w => ?_) (fun w => ?_)
    · have w : wh = 0 := w
      rw [if_pos w] at hR
      exact go cut0 20 216 _ _ _ _ _ (c_foundNone hS hR)
    · have w : ¬ wh = 0 := w
      rw [if_neg w] at hR
      exact go cut0 20 216 _ _ _ _ _ (c_foundNone hS hR)
  have pc : hfI (CU H K V W) 104 (hfR (CU H K V W) 604 (y + 1)) = nI cm := (CU_fIo hS.pl.1.2).trans hn0.2.1
  cases hol : olS (W 100) it n with
  | none =>
    rw [hol] at hg
    refine go (cut1 107) 40 77 _ _ _ _ _ ?_
    refine And.intro (fun w => absurd w (by decide)) (fun _ => ?_)
    refine go (cut1 204) 60 107 _ _ _ _ _ ?_
    refine nz hS.pl.1.1 ?_
    refine And.intro (fun _ => wk _ _ _ _ _ _ _ (fin (0, eNONE) hg) (by repeat (first | exact ln | refine l0 ?_ | refine l1 rfl ?_))) (fun _ => And.intro (fun _ => wk _ _ _ _ _ _ _ (fin (0, eNONE) hg) (by repeat (first | exact ln | refine l0 ?_ | refine l1 rfl ?_))) (fun w => absurd (by decide) w))
  | some o => 
    cases o with
    | none =>
      rw [hol] at hg
      refine go (cut1 107) 40 77 _ _ _ _ _ ?_
      refine And.intro (fun w => absurd w (by decide)) (fun _ => ?_)
      refine go (cut1 204) 60 107 _ _ _ _ _ ?_
      refine nz hS.pl.1.1 ?_
      refine And.intro (fun _ => wk _ _ _ _ _ _ _ (fin (0, eNONE) hg) (by repeat (first | exact ln | refine l0 ?_ | refine l1 rfl ?_))) (fun _ => And.intro (fun _ => wk _ _ _ _ _ _ _ (fin (0, eNONE) hg) (by repeat (first | exact ln | refine l0 ?_ | refine l1 rfl ?_))) (fun w => absurd (by decide) w))
    | some b =>
      rw [hol] at hg
      have hbn := olS_lt hol
      have nng : ¬ nI b < 0 := Int32.not_lt.mpr ((nI_leI (a := 0) (by omega) (by omega)).mpr (Nat.zero_le b))
      refine go (cut1 107) 60 77 _ _ _ _ _ ?_
      refine And.intro (fun _ => ?_) (fun w => absurd (Int32.not_lt.mp nng) w)
      refine nz a1 ?_
      refine cld a4 a5 (by decide) a6 (by omega) b rfl (by omega) ?_
      refine nz x1 ?_
      refine cld x3 x4 (by omega) x5 (by omega) (i' + b) (nI_add _ _) (by omega) ?_
      obtain ⟨dd, hdd⟩ : ∃ dd : Int32, dd = W 100 b - it b := ⟨_, rfl⟩
      have e0 : W 100 b - W (300 + r) (i' + b) = dd := by rw [hdd, hit]
      obtain ⟨Q, hQ⟩ : ∃ Q : Nat → Nat → Bool, Q = fun e l => decide (tk e l = dd) := ⟨_, rfl⟩
      have hg : kk (some (.inl (if wh = 0 then nI (frK Q (fun e => frV e b) cm).1 else (frK Q (fun e => frV e b) cm).2))) (CU H K (up2 V 603 1 0) W) := by
        rw [hQ, hdd]; exact hg
      show Wm 107 [some (.inr (.inr (7, y + 1))), some (.inl (nI r)), some (.inl (nI i')), some (.inl wh), some (.inr (.inr (4, q))), some (.inl 0), some (.inl (nI b)), none, none, none, none, none] [.inl (W 100 b - W (300 + r) (i' + b))] (CU H K V W) 0 0
      rw [e0]
      refine go (cut1 119) 60 107 _ _ _ _ _ ?_
      refine upto (n := cm) (P := fun c => Wm 119 [some (.inr (.inr (7, y + 1))), some (.inl (nI r)), some (.inl (nI i')), some (.inl wh), some (.inr (.inr (4, q))), some (.inl 0), some (.inl (nI b)), some (.inl dd), some (.inl (nI (frK Q (fun e => frV e b) c).1)), some (.inl (frK Q (fun e => frV e b) c).2), some (.inl (nI c)), none] [] (CU H K V W) 0 0) (fun c hc ih => ?_) 0 (Nat.zero_le _)
      refine go (cut2 139 204) 60 119 _ _ _ _ _ ?_
      refine nz hS.pl.1.1 ?_
      refine icg rfl pc (by omega) (by omega) (fun cc => ?_) (fun cc => ?_)
      · have e : c = cm := by omega
        subst e
        exact wk _ _ _ _ _ _ _ (fin _ hg) (by repeat (first | exact ln | refine l0 ?_ | refine l1 rfl ?_))
      · refine And.intro (fun w => absurd w nng) (fun _ => ?_)
        have ih := ih cc
        rw [← nI_1 c] at ih
        have hKs : frK Q (fun e => frV e b) (c + 1) = frL (Q c) (frV c b) (frK Q (fun e => frV e b) c) 30 := rfl
        rw [hKs] at ih
        have hk30 := frK_le Q (fun e => frV e b) c
        generalize frK Q (fun e => frV e b) c = st0 at *
        refine upto (n := 30) (P := fun l => Wm 139 [some (.inr (.inr (7, y + 1))), some (.inl (nI r)), some (.inl (nI i')), some (.inl wh), some (.inr (.inr (4, q))), some (.inl 0), some (.inl (nI b)), some (.inl dd), some (.inl (nI (frL (Q c) (frV c b) st0 l).1)), some (.inl (frL (Q c) (frV c b) st0 l).2), some (.inl (nI c)), some (.inl (nI (l + 1)))] [] (CU H K V W) 0 0) (fun l hl ihl => ?_) 0 (Nat.zero_le _)
        refine go (cut3 139 119 192) 60 139 _ _ _ _ _ ?_
        refine And.intro (fun w => ?_) (fun w => ?_)
        · have w : nI 30 < nI (l + 1) := w
          have w : 30 < l + 1 := Nat.not_le.mp (fun z => Int32.not_lt.mpr ((nI_leI (by omega) (by omega)).mpr z) w)
          have e : l = 30 := by omega
          subst e
          exact wk _ _ _ _ _ _ _ ih (by repeat (first | exact ln | refine l0 ?_ | refine l1 rfl ?_))
        · have w : ¬ nI 30 < nI (l + 1) := w
          have w : l + 1 ≤ 30 := (nI_leI (by omega) (by omega)).mp (Int32.not_lt.mp w)
          have ihl := ihl (by omega)
          rw [← nI_1 (l + 1)] at ihl
          have hls : frL (Q c) (frV c b) st0 (l + 1) = frN (frL (Q c) (frV c b) st0 l) (Q c (l + 1)) (frV c b) := rfl
          rw [hls] at ihl
          have hl30 := frL_le (Q c) (frV c b) st0 l
          generalize frL (Q c) (frV c b) st0 l = st at *
          refine nz a1 (nz hS.pl.1.1 ?_)
          refine c_chalkFor (CU_e _ _ _ _ _ _) hS.pl (by omega) ?_
          rw [ed V W]
          have hq : Q c (l + 1) = decide (tkC H (hfR H 604 (y + 1)) V c (nI (l + 1)) = dd) := by rw [hQ, htk]
          refine And.intro (fun u => ?_) (fun u => ?_)
          · have u : tkC H (hfR H 604 (y + 1)) V c (nI (l + 1)) = dd := u
            rw [hq, decide_eq_true u] at ihl
            unfold frN at ihl
            rw [if_pos rfl] at ihl
            dsimp only at ihl
            refine cq (a := st.1) (b := 0) rfl (by omega) (by omega) (fun v => ?_) (fun v => ?_)
            · rw [if_pos v, ← nI_1 st.1] at ihl
              exact go (cut1 139) 20 192 _ _ _ _ _ ihl
            · rw [if_neg v, ← nI_1 st.1] at ihl
              exact go (cut1 139) 20 192 _ _ _ _ _ ihl
          · have u : ¬ tkC H (hfR H 604 (y + 1)) V c (nI (l + 1)) = dd := u
            rw [hq, decide_eq_false u] at ihl
            unfold frN at ihl
            rw [if_neg (by decide)] at ihl
            exact go (cut1 139) 20 192 _ _ _ _ _ ihl
end C24
