/-! ===== the class: row ===== -/
section C26
variable {d y n cm x : Nat} {H : hp} {K : Nat → Nat} {V W : Nat → Nat → Int32} {kk : Rt}
set_option maxRecDepth 20000 in
theorem c_row {rw' la nn : Int32} (hS : CS H K (y + 1)) (hb : ¬ (inB rw' 8 ∧ inB la 3 ∧ ¬ 40 < nn) → kk (some (.inl eBAD)) (CU H K V W))
    (hf : inB rw' 8 → inB la 3 → nn < 0 → kk (some (.inl (-1000010 - 4))) (CU H K (up2 V 603 1 4) W))
    (hg : ∀ r s W', r < 8 → rw' = nI r → inB la 3 → s ≤ 40 → nn = nI s → (∀ t, t ≠ 300 + r → W' t = W t) → (∀ j, j < 40 → W' (300 + r) j = 0) → kk (some (.inl (nI s))) (CU H K (up2 (rbV V r la s) 603 1 0) W')) : CL (d + 2) mX6_row 0 0 [.inr (.inr (7, y + 1)), .inl rw', .inl la, .inl nn] (CU H K V W) kk := by
  obtain ⟨r1, r2, r3⟩ := hS.rows
  refine mw T_X6_row (fun Wm go => go cut0 80 0 _ _ _ _ _ ?_)
  refine c_isBelow (m := 8) rfl (by omega) (fun q1 => br1 ?_) (fun q1 => br0 (hb (fun z => q1 z.1)))
  refine c_isBelow (m := 3) rfl (by omega) (fun q2 => br1 ?_) (fun q2 => br0 (hb (fun z => q2 z.2.1)))
  refine And.intro (fun q3 => ?_) (fun q3 => hb (fun z => z.2.2 (Int32.not_le.mp q3)))
  refine And.intro (fun q4 => ?_) (fun q4 => c_found hS (hf q1 q2 (Int32.not_le.mp q4)))
  obtain ⟨r, hr, rfl⟩ := inB_of q1 (by omega)
  obtain ⟨s, -, hs40, rfl⟩ := inR_n (a := 0) (b := 40) (by omega) ⟨q4, q3⟩ (by omega)
  refine nz r1 (And.intro ?_ ?_)
  · show vp_in (nI r) (haL H (hfR H 600 (y + 1)))
    rw [r3]; exact vp_in_nI hr (by omega)
  refine nz (by rw [rho_e r hr]; exact (hS.rw r hr).1) ?_
  refine c_rbegin (rho_e r hr) hS.k (hS.rw r hr) hs40 (fun W' w1 w2 => ?_)
  exact c_foundNone hS (hg r s W' hr rfl q2 hs40 rfl w1 w2)
end C26
