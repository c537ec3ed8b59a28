/-! ===== the class: set, drop ===== -/
section C20
variable {d y n cm r s q : Nat} {H : hp} {K : Nat → Nat} {V W : Nat → Nat → Int32} {kk : Rt} {rs : Nat → Option Nat}
theorem isPt1 {i : Int32} (hs : s ≤ 40) : isPt s i 1 ↔ inB i s := by
  have e : (1 : Int32).toInt = 1 := rfl
  unfold isPt inB
  rw [e]
  omega
set_option maxRecDepth 20000 in
theorem c_set {rw' i v : Int32} (hS : CS H K (y + 1)) (hR : RLs V rs) (hb : ¬ inB rw' 8 → kk (some (.inl eBAD)) (CU H K V W)) (hn : ∀ r, r < 8 → rw' = nI r → rs r = none → kk (some (.inl (-1000010 - 1))) (CU H K (up2 V 603 1 1) W))
    (hp : ∀ r s, r < 8 → rw' = nI r → rs r = some s → ¬ inB i s → kk (some (.inl (-1000010 - 2))) (CU H K (up2 V 603 1 2) W))
    (hg : ∀ r s j, r < 8 → rw' = nI r → rs r = some s → j < s → i = nI j → kk (some (.inl (cutI (V 301 (310 + r)) v))) (CU H K (up2 V 603 1 0) (va_up W (300 + r) (upd (W (300 + r)) j (cutI (V 301 (310 + r)) v))))) : CL (d + 2) mX6_set 0 0 [.inr (.inr (7, y + 1)), .inl rw', .inl i, .inl v] (CU H K V W) kk := by
  obtain ⟨r1, r2, r3⟩ := hS.rows
  refine mw T_X6_set (fun Wm go => go cut0 80 0 _ _ _ _ _ ?_)
  refine c_isBelow (m := 8) rfl (by omega) (fun q1 => br1 ?_) (fun q1 => br0 (hb q1))
  obtain ⟨r, hr, rfl⟩ := inB_of q1 (by omega)
  refine nz r1 (And.intro ?_ ?_)
  · show vp_in (nI r) (haL H (hfR H 600 (y + 1)))
    rw [r3]; exact vp_in_nI hr (by omega)
  have zz : RW1 H K (rho H (y + 1) r) r := hS.rw r hr
  obtain ⟨x1, x2, ⟨x3, x4, x5⟩, x7⟩ := hS.rw r hr
  have hq0 : haR (CU H K V W) (hfR (CU H K V W) 600 (y + 1)) (nI r).toNatClampNeg ≠ 0 := by rw [rho_e r hr]; exact x1
  refine nz hq0 ?_
  refine c_lackOf (rho_e r hr) zz (hR r hr) (fun z1 => ?_) (fun s z1 x6 w => ?_) (fun s z1 x6 w => ?_)
  · exact And.intro (fun c => absurd c (by decide)) (fun _ => c_found hS (hn r hr rfl z1))
  · exact And.intro (fun c => absurd c (by decide)) (fun _ => c_found hS (hp r s hr rfl z1 (fun w2 => w ((isPt1 x6).mpr w2))))
  · refine And.intro (fun _ => ?_) (fun c => absurd rfl c)
    obtain ⟨j, hj, rfl⟩ := inB_of ((isPt1 x6).mp w) (by omega)
    refine nz hq0 (nz hq0 ?_)
    refine c_lowestBits (rho_e r hr) zz ?_
    have ea : ∀ W2, hfR (CU H K V W2) 300 (haR (CU H K V W) (hfR (CU H K V W) 600 (y + 1)) (nI r).toNatClampNeg) = hfR H 300 (rho H (y + 1) r) := fun W2 => by rw [rho_e r hr]; rfl
    refine cst hS.k (by rw [ea]; exact x3) (s := 300 + r) (by rw [ea]; exact x4) (by omega) (m := 40) (by rw [ea]; exact x5) (by omega) j rfl (by omega) ?_
    refine nz hq0 ?_
    refine cld (by rw [ea]; exact x3) (s := 300 + r) (by rw [ea]; exact x4) (by omega) (m := 40) (by rw [ea]; exact x5) (by omega) j rfl (by omega) ?_
    have ev : va_up W (300 + r) (upd (W (300 + r)) j (cutI (V 301 (310 + r)) v)) (300 + r) j = cutI (V 301 (310 + r)) v := by
      rw [va_up_self]; exact if_pos rfl
    rw [ev]
    exact c_foundNone hS (hg r s j hr rfl z1 hj rfl)
end C20
