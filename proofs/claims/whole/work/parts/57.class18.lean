/-! ===== the class: drop, copy ===== -/
section C21
variable {d y n cm r s q : Nat} {H : hp} {K : Nat → Nat} {V W : Nat → Nat → Int32} {kk : Rt} {rs : Nat → Option Nat}
theorem c_drop {rw' : Int32} (hS : CS H K (y + 1)) (hR : RW H K (y + 1) rs) (hb : ¬ inB rw' 8 → kk (some (.inl eBAD)) (CU H K V W)) (hn : ∀ r, r < 8 → rw' = nI r → rs r = none → kk (some (.inl (-1000010 - 1))) (CU H K (up2 V 604 1 1) W))
    (hg : ∀ r s, r < 8 → rw' = nI r → rs r = some s → kk (some (.inl (nI s))) (CU (waR H (hfR H 600 (y + 1)) (va_up (haR H (hfR H 600 (y + 1))) r 0)) K (up2 V 604 1 0) W)) : CL (d + 2) mX6_drop 0 0 [.inr (.inr (7, y + 1)), .inl rw'] (CU H K V W) kk := by
  obtain ⟨r1, r2, r3⟩ := hS.rows
  refine mw T_X6_drop (fun Wm go => go (cut1 36) 80 0 _ _ _ _ _ ?_)
  refine c_isBelow (m := 8) rfl (by omega) (fun q1 => br1 ?_) (fun q1 => br0 (hb q1))
  obtain ⟨r, hr, rfl⟩ := inB_of q1 (by omega)
  refine nz r1 (And.intro ?_ ?_)
  · show vp_in (nI r) (haL H (hfR H 600 (y + 1)))
    rw [r3]; exact vp_in_nI hr (by omega)
  rcases hR r hr with ⟨z1, z2⟩ | ⟨s, z1, z2⟩
  · refine And.intro (fun _ => ?_) (fun w => absurd ((rho_e r hr).trans z2) w)
    exact c_found hS (hn r hr rfl z1)
  · obtain ⟨x1, x2, ⟨x3, x4, x5⟩, x6, x7⟩ := z2
    refine And.intro (fun w => absurd ((rho_e r hr).symm.trans w) x1) (fun _ => ?_)
    refine nz r1 (And.intro ?_ ?_)
    · show vp_in (nI r) (haL H (hfR H 600 (y + 1)))
      rw [r3]; exact vp_in_nI hr (by omega)
    refine wmc (Wm := Wm) (L' := [some (.inr (.inr (7, y + 1))), some (.inl (nI r)), some (.inr (.inr (4, rho H (y + 1) r)))]) (h' := CU (waR H (hfR H 600 (y + 1)) (va_up (haR H (hfR H 600 (y + 1))) r 0)) K V W) ?_ ?_ ?_
    · have hS' := hS.wra (g := va_up (haR H (hfR H 600 (y + 1))) r 0) (a := hfR H 600 (y + 1)) (by omega) (by omega)
      have hg := hg r s hr rfl z1
      generalize hq : rho H (y + 1) r = q at *
      refine go cut0 60 36 _ _ _ _ _ ?_
      refine nz x1 (nz x3 ?_)
      refine c_foundNone hS' (kki hg ?_ rfl)
      show nI (haL H (hfR H 301 q)) = nI s
      rw [x5]
    · show [_, _, some (Sum.inr (Sum.inr (4, haR (CU H K V W) (hfR (CU H K V W) 600 (y + 1)) (nI r).toNatClampNeg)))] = _
      rw [rho_e r hr]
      rfl
    · rw [nI_clamp (by omega)]; rfl
end C21
