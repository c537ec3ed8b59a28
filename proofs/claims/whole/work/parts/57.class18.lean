/-! ===== the class: drop, copy ===== -/
section C21
variable {d y n cm r s q : Nat} {H : hp} {K : Nat → Nat} {V W : Nat → Nat → Int32} {kk : Rt} {rs : Nat → Option Nat}
theorem c_drop {rw' : Int32} (hS : CS H K (y + 1)) (hR : RLs V rs) (hb : ¬ inB rw' 8 → kk (some (.inl eBAD)) (CU H K V W)) (hn : ∀ r, r < 8 → rw' = nI r → rs r = none → kk (some (.inl (-1000010 - 1))) (CU H K (up2 V 603 1 1) W))
    (hg : ∀ r s, r < 8 → rw' = nI r → rs r = some s → kk (some (.inl (nI s))) (CU H K (up2 (up2 V 302 (310 + r) (-1)) 603 1 0) W)) : CL (d + 2) mX6_drop 0 0 [.inr (.inr (7, y + 1)), .inl rw'] (CU H K V W) kk := by
  obtain ⟨r1, r2, r3⟩ := hS.rows
  refine mw T_X6_drop (fun Wm go => go (cut1 37) 80 0 _ _ _ _ _ ?_)
  refine c_isBelow (m := 8) rfl (by omega) (fun q1 => br1 ?_) (fun q1 => br0 (hb q1))
  obtain ⟨r, hr, rfl⟩ := inB_of q1 (by omega)
  refine nz r1 (And.intro ?_ ?_)
  · show vp_in (nI r) (haL H (hfR H 600 (y + 1)))
    rw [r3]; exact vp_in_nI hr (by omega)
  have zz : RW1 H K (rho H (y + 1) r) r := hS.rw r hr
  have hq0 : haR (CU H K V W) (hfR (CU H K V W) 600 (y + 1)) (nI r).toNatClampNeg ≠ 0 := by rw [rho_e r hr]; exact zz.1
  refine nz hq0 ?_
  rcases hR r hr with ⟨lq1, l2⟩ | ⟨s, lq1, l2, l3⟩
  · refine c_isMissing (rho_e r hr) zz (fun _ => br1 ?_) (fun z => absurd (by rw [l2]; decide) z)
    exact c_found hS (hn r hr rfl lq1)
  · refine c_isMissing (rho_e r hr) zz (fun z => absurd z (by rw [l3]; exact nI_neg (by omega))) (fun _ => br0 ?_)
    refine nz hq0 ?_
    have hg := hg r s hr rfl lq1
    have ev : hfI (CU H K V W) 302 (haR (CU H K V W) (hfR (CU H K V W) 600 (y + 1)) (nI r).toNatClampNeg) = nI s := by
      rw [rho_e r hr]; exact (CU_fI zz.2.1 (by omega)).trans l3
    refine wmc (Wm := Wm) (L' := [some (.inr (.inr (7, y + 1))), some (.inl (nI r)), some (.inr (.inr (4, rho H (y + 1) r))), some (.inl (nI s))]) (h' := CU H K V W) ?_ ?_ rfl
    · generalize rho H (y + 1) r = q at *
      refine go cut0 60 37 _ _ _ _ _ ?_
      refine nz zz.1 ?_
      refine c_rdrop rfl hS.k zz ?_
      exact c_foundNone hS hg
    · show [_, _, some (Sum.inr (Sum.inr (4, haR (CU H K V W) (hfR (CU H K V W) 600 (y + 1)) (nI r).toNatClampNeg))), some (Sum.inl (hfI (CU H K V W) 302 (haR (CU H K V W) (hfR (CU H K V W) 600 (y + 1)) (nI r).toNatClampNeg)))] = _
      rw [ev, rho_e r hr]
      rfl
set_option maxRecDepth 20000 in
theorem c_copy {ra i rb j k : Int32} (hS : CS H K (y + 1)) (hR : RLs V rs) (hb : ¬ (inB ra 8 ∧ inB rb 8) → kk (some (.inl eBAD)) (CU H K V W)) (hn : ∀ a b, a < 8 → b < 8 → ra = nI a → rb = nI b → (rs a = none ∨ rs b = none) → kk (some (.inl (-1000010 - 1))) (CU H K (up2 V 603 1 1) W))
    (ht : ∀ a b s t, a < 8 → b < 8 → ra = nI a → rb = nI b → rs a = some s → rs b = some t → ¬ V 301 (310 + a) = V 301 (310 + b) → kk (some (.inl (-1000010 - 5))) (CU H K (up2 V 603 1 5) W))
    (hp : ∀ a b s t, a < 8 → b < 8 → ra = nI a → rb = nI b → rs a = some s → rs b = some t → V 301 (310 + a) = V 301 (310 + b) → ¬ (isPt s i k ∧ isPt t j k) → kk (some (.inl (-1000010 - 2))) (CU H K (up2 V 603 1 2) W))
    (hg : ∀ a b s t i' j' k', a < 8 → b < 8 → ra = nI a → rb = nI b → rs a = some s → rs b = some t → V 301 (310 + a) = V 301 (310 + b) → i = nI i' → j = nI j' → k = nI k' → i' + k' ≤ s → j' + k' ≤ t → kk (some (.inl (nI k'))) (CU H K (up2 V 603 1 0) (va_up W (300 + b) (va_cpy (W (300 + a)) (W (300 + b)) i' j' k')))) : CL (d + 2) mX6_copy 0 0 [.inr (.inr (7, y + 1)), .inl ra, .inl i, .inl rb, .inl j, .inl k] (CU H K V W) kk := by
  obtain ⟨r1, r2, r3⟩ := hS.rows
  refine mw3 T_X6_copy (fun Wm go wk => go (cut1 37) 80 0 _ _ _ _ _ ?_)
  refine c_isBelow (m := 8) rfl (by omega) (fun q1 => br1 ?_) (fun q1 => br0 (hb (fun z => q1 z.1)))
  refine c_isBelow (m := 8) rfl (by omega) (fun q2 => br1 ?_) (fun q2 => br0 (hb (fun z => q2 z.2)))
  obtain ⟨a, ha, rfl⟩ := inB_of q1 (by omega)
  obtain ⟨b, hbb, rfl⟩ := inB_of q2 (by omega)
  have vi : ∀ r, r < 8 → vp_in (nI r) (haL (CU H K V W) (hfR (CU H K V W) 600 (y + 1))) := fun r hr => by
    show vp_in (nI r) (haL H (hfR H 600 (y + 1)))
    rw [r3]; exact vp_in_nI hr (by omega)
  refine nz r1 (And.intro (vi a ha) ?_)
  refine nz r1 (And.intro (vi b hbb) ?_)
  have z2 : RW1 H K (rho H (y + 1) a) a := hS.rw a ha
  have u2 : RW1 H K (rho H (y + 1) b) b := hS.rw b hbb
  refine wmc (Wm := Wm) (L' := [some (.inr (.inr (7, y + 1))), some (.inl (nI a)), some (.inl i), some (.inl (nI b)), some (.inl j), some (.inl k), some (.inr (.inr (4, rho H (y + 1) a))), some (.inr (.inr (4, rho H (y + 1) b)))]) ?_ (by rw [← rho_e (K := K) (V := V) (W := W) a ha, ← rho_e (K := K) (V := V) (W := W) b hbb]; rfl) rfl
  generalize rho H (y + 1) a = qa at *
  generalize rho H (y + 1) b = qb at *
  have zz := z2
  have uu' := u2
  obtain ⟨x1, x2, ⟨x3, x4, x5⟩, x7⟩ := z2
  obtain ⟨w1, w2, ⟨w3, w4, w5⟩, w7⟩ := u2
  have none' : (rs a = none ∨ rs b = none) → Wm 53 [some (.inr (.inr (7, y + 1))), none, none, none, none, none, none, none] [] (CU H K V W) 0 0 := by
    intro hz
    refine go cut0 40 53 _ _ _ _ _ ?_
    exact c_found hS (hn a b ha hbb rfl rfl hz)
  refine go (cut2 53 59) 80 37 _ _ _ _ _ ?_
  refine nz x1 ?_
  rcases hR a ha with ⟨lq1, l2⟩ | ⟨s, z1, x6, l3⟩
  · refine c_isMissing rfl zz (fun _ => br1 ?_) (fun z => absurd (by rw [l2]; decide) z)
    exact wk _ _ _ _ _ _ _ (none' (Or.inl lq1)) (by repeat (first | exact ln | refine l0 ?_ | refine l1 rfl ?_))
  refine c_isMissing rfl zz (fun z => absurd z (by rw [l3]; exact nI_neg (by omega))) (fun _ => br0 ?_)
  refine nz w1 ?_
  rcases hR b hbb with ⟨lq1, l2⟩ | ⟨t, u1, w6, m3⟩
  · refine c_isMissing rfl uu' (fun _ => br1 ?_) (fun z => absurd (by rw [l2]; decide) z)
    exact wk _ _ _ _ _ _ _ (none' (Or.inr lq1)) (by repeat (first | exact ln | refine l0 ?_ | refine l1 rfl ?_))
  refine c_isMissing rfl uu' (fun z => absurd z (by rw [m3]; exact nI_neg (by omega))) (fun _ => br0 ?_)
  refine go (cut1 125) 80 59 _ _ _ _ _ ?_
  refine nz x1 (nz w1 ?_)
  have ea : hfI (CU H K V W) 301 qa = V 301 (310 + a) := CU_fI x2 (by omega)
  have eb : hfI (CU H K V W) 301 qb = V 301 (310 + b) := CU_fI w2 (by omega)
  refine And.intro (fun c3 => ?_) (fun c3 => c_found hS (ht a b s t ha hbb rfl rfl z1 u1 (fun q => c3 (ea.trans (q.trans eb.symm)))))
  have c3 : V 301 (310 + a) = V 301 (310 + b) := ea.symm.trans (c3.trans eb)
  refine nz x1 ?_
  refine c_hasPlaces rfl zz x6 l3 (fun c4 => br1 ?_) (fun c4 => br0 (c_found hS (hp a b s t ha hbb rfl rfl z1 u1 c3 (fun q => c4 q.1))))
  refine nz w1 ?_
  refine c_hasPlaces rfl uu' w6 m3 (fun c5 => br1 ?_) (fun c5 => br0 (c_found hS (hp a b s t ha hbb rfl rfl z1 u1 c3 (fun q => c5 q.2))))
  obtain ⟨i', hi', ei⟩ := nI_of (x := i) (z0.mpr c4.1)
  obtain ⟨j', hj', ej⟩ := nI_of (x := j) (z0.mpr c5.1)
  obtain ⟨k', hk', ek⟩ := nI_of (x := k) (z0.mpr c4.2.1)
  subst ei; subst ej; subst ek
  have q4 := c4.2.2
  have q5 := c5.2.2
  rw [nI_toInt hi', nI_toInt hk'] at q4
  rw [nI_toInt hj', nI_toInt hk'] at q5
  have fin := hg a b s t i' j' k' ha hbb rfl rfl z1 u1 c3 rfl rfl rfl (by omega) (by omega)
  refine nz x1 (nz w1 (nz x3 (nz w3 (And.intro ⟨z0.mpr c4.1, z0.mpr c5.1, z0.mpr c4.2.1, ?_, ?_⟩ ?_))))
  · show (nI i').toNatClampNeg + (nI k').toNatClampNeg ≤ haL H (hfR H 300 qa)
    rw [nI_clamp (by omega), nI_clamp (by omega), x5]; omega
  · show (nI j').toNatClampNeg + (nI k').toNatClampNeg ≤ haL H (hfR H 300 qb)
    rw [nI_clamp (by omega), nI_clamp (by omega), w5]; omega
  refine wmc (Wm := Wm) (h' := CU H K V (va_up W (300 + b) (va_cpy (W (300 + a)) (W (300 + b)) i' j' k'))) ?_ rfl ?_
  · refine go cut0 40 125 _ _ _ _ _ ?_
    exact c_foundNone hS fin
  · rw [nI_clamp (by omega), nI_clamp (by omega), nI_clamp (by omega)]
    show waI (CU H K V W) (hfR H 300 qb) (va_cpy (haI (CU H K V W) (hfR H 300 qa)) (haI (CU H K V W) (hfR H 300 qb)) i' j' k') = _
    rw [CU_aI x4 (by omega), CU_aI w4 (by omega), CU_wA hS.k w4 (by omega)]
end C21
