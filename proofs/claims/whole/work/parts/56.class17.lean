/-! ===== the class: set, drop ===== -/
section C20
variable {d y n cm r s q : Nat} {H : hp} {K : Nat → Nat} {V W : Nat → Nat → Int32} {kk : Rt} {rs : Nat → Option Nat}
theorem isPt1 {i : Int32} (hs : s ≤ 40) : isPt s i 1 ↔ inB i s := by
  have e : (1 : Int32).toInt = 1 := rfl
  unfold isPt inB
  rw [e]
  omega
theorem rho_e (r : Nat) (hr : r < 8) : haR (CU H K V W) (hfR (CU H K V W) 600 (y + 1)) (nI r).toNatClampNeg = rho H (y + 1) r := by rw [nI_clamp (by omega)]; rfl
set_option maxRecDepth 20000 in
theorem c_set {rw' i v : Int32} (hS : CS H K (y + 1)) (hR : RW H K (y + 1) rs) (hb : ¬ inB rw' 8 → kk (some (.inl eBAD)) (CU H K V W)) (hn : ∀ r, r < 8 → rw' = nI r → rs r = none → kk (some (.inl (-1000010 - 1))) (CU H K (up2 V 604 1 1) W))
    (hp : ∀ r s, r < 8 → rw' = nI r → rs r = some s → ¬ inB i s → kk (some (.inl (-1000010 - 2))) (CU H K (up2 V 604 1 2) W))
    (hg : ∀ r s j, r < 8 → rw' = nI r → rs r = some s → j < s → i = nI j → kk (some (.inl (cutI (V 300 (310 + r)) v))) (CU H K (up2 V 604 1 0) (va_up W (300 + r) (upd (W (300 + r)) j (cutI (V 300 (310 + r)) v))))) : CL (d + 2) mX6_set 0 0 [.inr (.inr (7, y + 1)), .inl rw', .inl i, .inl v] (CU H K V W) kk := by
  obtain ⟨r1, r2, r3⟩ := hS.rows
  refine mw T_X6_set (fun Wm go => go cut0 80 0 _ _ _ _ _ ?_)
  refine c_isBelow (m := 8) rfl (by omega) (fun q1 => br1 ?_) (fun q1 => br0 (hb q1))
  obtain ⟨r, hr, rfl⟩ := inB_of q1 (by omega)
  refine nz r1 (And.intro ?_ ?_)
  · show vp_in (nI r) (haL H (hfR H 600 (y + 1)))
    rw [r3]; exact vp_in_nI hr (by omega)
  rcases hR r hr with ⟨z1, z2⟩ | ⟨s, z1, z2⟩
  · refine And.intro (fun _ => ?_) (fun w => absurd ((rho_e r hr).trans z2) w)
    exact c_found hS (hn r hr rfl z1)
  · have zz := z2
    obtain ⟨x1, x2, ⟨x3, x4, x5⟩, x6, x7⟩ := z2
    refine And.intro (fun w => absurd ((rho_e r hr).symm.trans w) x1) (fun _ => ?_)
    have hq0 : haR (CU H K V W) (hfR (CU H K V W) 600 (y + 1)) (nI r).toNatClampNeg ≠ 0 := by rw [rho_e r hr]; exact x1
    refine nz hq0 ?_
    refine c_hasPlaces (rho_e r hr) zz (fun w => br1 ?_) (fun w => br0 (c_found hS (hp r s hr rfl z1 (fun w2 => w ((isPt1 x6).mpr w2)))))
    obtain ⟨j, hj, rfl⟩ := inB_of ((isPt1 x6).mp w) (by omega)
    refine nz hq0 (nz hq0 ?_)
    refine c_lowestBits (rho_e r hr) zz ?_
    have ea : ∀ W2, hfR (CU H K V W2) 301 (haR (CU H K V W) (hfR (CU H K V W) 600 (y + 1)) (nI r).toNatClampNeg) = hfR H 301 (rho H (y + 1) r) := fun W2 => by rw [rho_e r hr]; rfl
    refine cst hS.k (by rw [ea]; exact x3) (s := 300 + r) (by rw [ea]; exact x4) (by omega) (m := s) (by rw [ea]; exact x5) (by omega) j rfl hj ?_
    refine nz hq0 ?_
    refine cld (by rw [ea]; exact x3) (s := 300 + r) (by rw [ea]; exact x4) (by omega) (m := s) (by rw [ea]; exact x5) (by omega) j rfl hj ?_
    have ev : va_up W (300 + r) (upd (W (300 + r)) j (cutI (V 300 (310 + r)) v)) (300 + r) j = cutI (V 300 (310 + r)) v := by
      rw [va_up_self]; exact if_pos rfl
    rw [ev]
    exact c_foundNone hS (hg r s j hr rfl z1 hj rfl)
end C20
