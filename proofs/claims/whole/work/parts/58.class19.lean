/-! ===== the class: who ===== -/
section C22
variable {d y n cm r s q : Nat} {H : hp} {K : Nat → Nat} {V W : Nat → Nat → Int32} {kk : Rt} {rs : Nat → Option Nat}
theorem alB_f {f : Nat → Bool} {n k : Nat} (hk : k < n) (h : f k = false) : alB f n = false := by
  cases e : alB f n with
  | false => rfl
  | true => 
    have := alB_t.mp e k hk
    rw [h] at this
    cases this
theorem c_fitsKind {a' a i m : Nat} {kind hand : Int32} (ea : a' = a) (hS : CS H K (y + 1)) (hA : AR H K a (300 + r) s) (hr : r < 8) (hs : s ≤ 40) (hi : i + 2 * m ≤ s) (F : Nat → Bool) (hF : F = fun w => decide (tkB kind hand (W (300 + r) (i + 2 * w)) (V 503 10) = W (300 + r) (i + 2 * w + 1))) (ht : alB F m = true → kk (some (.inl 1)) (CU H K V W)) (hf : alB F m = false → kk (some (.inl 0)) (CU H K V W)) : CL (d + 2) mX6_fitsKind 0 0 [.inr (.inr (7, y + 1)), .inl kind, .inl hand, .inr (.inr (20, a')), .inl (nI i), .inl (nI m)] (CU H K V W) kk := by
  subst ea
  obtain ⟨u1, u2, u3⟩ := hA
  obtain ⟨⟨a1, a2, a3⟩, -⟩ := hS.now
  have ed : hfI (CU H K V W) 503 (hfR (CU H K V W) 605 (y + 1)) = V 503 10 := CU_fI a2 (by decide)
  refine mw T_X6_fitsKind (fun Wm go => go (cut1 3) 60 0 _ _ _ _ _ ?_)
  refine upto (n := m) (P := fun w => (∀ j, j < w → F j = true) → Wm 3 [some (.inr (.inr (7, y + 1))), some (.inl kind), some (.inl hand), some (.inr (.inr (20, a'))), some (.inl (nI i)), some (.inl (nI m)), some (.inl (nI w))] [] (CU H K V W) 0 0) (fun w hw ih hj => ?_) 0 (Nat.zero_le _) (fun j hj => absurd hj (Nat.not_lt_zero j))
  refine go (cut1 3) 60 3 _ _ _ _ _ ?_
  refine icg rfl rfl (by omega) (by omega) (fun c => ?_) (fun c => ?_)
  · have e : w = m := by omega
    subst e
    exact And.intro (Or.inr rfl) (ht (alB_t.mpr hj))
  · refine cld u1 u2 (by omega) u3 (by omega) (i + 2 * w) (ix2 i w) (by omega) ?_
    refine nz a1 ?_
    refine c_chalkByKind ?_
    refine cld u1 u2 (by omega) u3 (by omega) (i + 2 * w + 1) (by show nI i + 2 * nI w + 1 = _; rw [ix2]; exact nI_1 _) (by omega) ?_
    rw [ed]
    refine And.intro (fun z => ?_) (fun z => ?_)
    · have e := ih c (fun j hj' => by
        by_cases q : j = w
        · rw [q, hF]; exact decide_eq_true z
        · exact hj j (by omega))
      rw [← nI_1] at e
      exact e
    · exact And.intro (Or.inl rfl) (hf (alB_f c (by rw [hF]; exact decide_eq_false z)))
abbrev whG (H : hp) (p : Nat) (V W : Nat → Nat → Int32) (c r i m kind : Nat) : Bool := alB (fun w => decide (tkB (nI kind) (pA H p 109 c) (W (300 + r) (i + 2 * w)) (V 503 10) = W (300 + r) (i + 2 * w + 1))) m
set_option maxRecDepth 20000 in
theorem c_who {cl rw' i many : Int32} (hS : CS H K (y + 1)) (hn0 : Pn H (hfR H 604 (y + 1)) n cm) (hR : RLs V rs) (hb : ¬ (inB cl cm ∧ inB rw' 8 ∧ inR many 1 8) → kk (some (.inl eBAD)) (CU H K V W))
    (hn : ∀ c r m, c < cm → cl = nI c → r < 8 → rw' = nI r → 1 ≤ m → m ≤ 8 → many = nI m → rs r = none → kk (some (.inl (-1000010 - 1))) (CU H K (up2 V 603 1 1) W))
    (hp : ∀ c r m s, c < cm → cl = nI c → r < 8 → rw' = nI r → 1 ≤ m → m ≤ 8 → many = nI m → rs r = some s → ¬ isPt s i (nI (2 * m)) → kk (some (.inl (-1000010 - 2))) (CU H K (up2 V 603 1 2) W))
    (hl : ∀ c r m s i', c < cm → cl = nI c → r < 8 → rw' = nI r → 1 ≤ m → m ≤ 8 → many = nI m → rs r = some s → i = nI i' → i' + 2 * m ≤ s → ¬ (∀ w, w < m → inR (W (300 + r) (i' + 2 * w)) 1 30) → kk (some (.inl eBAD)) (CU H K V W))
    (hg : ∀ c r m s i', c < cm → cl = nI c → r < 8 → rw' = nI r → 1 ≤ m → m ≤ 8 → many = nI m → rs r = some s → i = nI i' → i' + 2 * m ≤ s → (∀ w, w < m → inR (W (300 + r) (i' + 2 * w)) 1 30) → kk (some (.inl (whS (whG H (hfR H 604 (y + 1)) V W c r i' m) 5))) (CU H K (up2 V 603 1 0) W)) : CL (d + 3) mX6_who 0 0 [.inr (.inr (7, y + 1)), .inl cl, .inl rw', .inl i, .inl many] (CU H K V W) kk := by
  have c4 := hn0.2.2
  obtain ⟨r1, r2, r3⟩ := hS.rows
  obtain ⟨-, -, -, -, ⟨e4, e5, e6⟩⟩ := hS.pl
  refine mw3 T_X6_who (fun Wm go wk => go (cut1 68) 80 0 _ _ _ _ _ ?_)
  refine nz hS.pl.1.1 ?_
  refine c_hasClerk (CU_e _ _ _ _ _ _) hS.pl hn0 (fun q1 => br1 ?_) (fun q1 => br0 (hb (fun z => q1 z.1)))
  refine c_isBelow (m := 8) rfl (by omega) (fun q2 => br1 ?_) (fun q2 => br0 (hb (fun z => q2 z.2.1)))
  refine And.intro (fun q3 => hb (fun z => Int32.not_lt.mpr z.2.2.1 q3)) (fun q3 => And.intro (fun q4 => ?_) (fun q4 => hb (fun z => q4 z.2.2.2)))
  obtain ⟨c, hc, rfl⟩ := inB_of q1 (by omega)
  obtain ⟨r, hr, rfl⟩ := inB_of q2 (by omega)
  obtain ⟨m, m1, m2, rfl⟩ := inR_n (a := 1) (b := 8) (by omega) ⟨Int32.not_lt.mp q3, q4⟩ (by omega)
  refine nz r1 (And.intro ?_ ?_)
  · show vp_in (nI r) (haL H (hfR H 600 (y + 1)))
    rw [r3]; exact vp_in_nI hr (by omega)
  have z2 : RW1 H K (rho H (y + 1) r) r := hS.rw r hr
  refine nz (by rw [rho_e r hr]; exact z2.1) ?_
  refine c_lackOf (rho_e r hr) z2 (hR r hr) (fun z1 => ?_) (fun s z1 x6 w => ?_) (fun s z1 x6 w => ?_)
  · exact And.intro (fun c => absurd c (by decide)) (fun _ => c_found hS (hn c r m hc rfl hr rfl m1 m2 rfl z1))
  · exact And.intro (fun c => absurd c (by decide)) (fun _ => c_found hS (hp c r m s hc rfl hr rfl m1 m2 rfl z1 (fun w2 => w (by show isPt s i (2 * nI m); rw [ix2b]; exact w2))))
  refine And.intro (fun _ => ?_) (fun c => absurd rfl c)
  have w : isPt s i (2 * nI m) := w
  rw [ix2b] at w
  obtain ⟨i', rfl, hi'⟩ := isPt_of w (by omega)
  have hl := hl c r m s i' hc rfl hr rfl m1 m2 rfl z1 rfl hi'
  have hg := hg c r m s i' hc rfl hr rfl m1 m2 rfl z1 rfl hi'
  refine wmc (Wm := Wm) (L' := [some (.inr (.inr (7, y + 1))), some (.inl (nI c)), some (.inl (nI r)), some (.inl (nI i')), some (.inl (nI m)), some (.inr (.inr (4, rho H (y + 1) r))), some (.inl 0), none, none]) ?_ (by rw [← rho_e (K := K) (V := V) (W := W) r hr]; rfl) rfl
  generalize rho H (y + 1) r = q at *
  obtain ⟨x1, x2, ⟨x3, x4, x5⟩, x7⟩ := z2
  refine go (cut1 71) 80 68 _ _ _ _ _ ?_
  refine upto (n := m) (P := fun k => (∀ w, w < k → inR (W (300 + r) (i' + 2 * w)) 1 30) → Wm 71 [some (.inr (.inr (7, y + 1))), some (.inl (nI c)), some (.inl (nI r)), some (.inl (nI i')), some (.inl (nI m)), some (.inr (.inr (4, q))), some (.inl 0), some (.inl (nI k)), none] [] (CU H K V W) 0 0) (fun k hk ih hw => ?_) 0 (Nat.zero_le _) (fun w hw => absurd hw (Nat.not_lt_zero w))
  refine go (cut2 71 105) 60 71 _ _ _ _ _ ?_
  refine icg rfl rfl (by omega) (by omega) (fun cc => ?_) (fun cc => ?_)
  · have e : k = m := by omega
    subst e
    have hg := hg hw
    clear ih hl
    refine go (cut1 111) 60 105 _ _ _ _ _ ?_
    refine upto (n := 5) (P := fun u => Wm 111 [some (.inr (.inr (7, y + 1))), some (.inl (nI c)), some (.inl (nI r)), some (.inl (nI i')), some (.inl (nI k)), some (.inr (.inr (4, q))), some (.inl 0), some (.inl (whS (whG H (hfR H 604 (y + 1)) V W c r i' k) u)), some (.inl (nI (u + 1)))] [] (CU H K V W) 0 0) (fun u hu ih => ?_) 0 (Nat.zero_le _)
    refine go (cut1 111) 60 111 _ _ _ _ _ ?_
    refine icg rfl (show (6 : Int32) = nI 6 from rfl) (by omega) (by omega) (fun z => ?_) (fun z => ?_)
    · have e : u = 5 := by omega
      subst e
      exact c_foundNone hS hg
    · have ih := ih (by omega)
      rw [← nI_1 (u + 1)] at ih
      have hs : whS (whG H (hfR H 604 (y + 1)) V W c r i' k) (u + 1) = whS (whG H (hfR H 604 (y + 1)) V W c r i' k) u ||| (if whG H (hfR H 604 (y + 1)) V W c r i' k (u + 1) = true then 1 <<< (nI (u + 1) &&& 31) else 0) := rfl
      rw [hs] at ih
      refine nz hS.pl.1.1 ?_
      refine cldo e4 e5 e6 (by omega) c rfl (by omega) ?_
      refine nz x1 ?_
      refine c_fitsKind rfl hS ⟨x3, x4, x5⟩ hr (Nat.le_refl 40) (by omega) _ rfl (fun v => br1 ?_) (fun v => br0 ?_)
      · have v : whG H (hfR H 604 (y + 1)) V W c r i' k (u + 1) = true := v
        rw [if_pos v] at ih
        exact ih
      · have v : whG H (hfR H 604 (y + 1)) V W c r i' k (u + 1) = false := v
        rw [v, if_neg (by decide), or_z] at ih
        exact ih
  · refine nz x1 ?_
    refine cld x3 x4 (by omega) x5 (by omega) (i' + 2 * k) (ix2 i' k) (by omega) ?_
    refine c_isLines (fun v => br1 ?_) (fun v => br0 (hl (fun z => v (z k cc))))
    have e := ih cc (fun w hw' => by
      by_cases q : w = k
      · rw [q]; exact v
      · exact hw w (by omega))
    rw [← nI_1] at e
    exact e
end C22
