/-! ===== ENGINE: new objects, library members, calls, the entry ===== -/
section K5
variable {own : String} {cc : ByteArray} {nL : Nat} {rt : Option FieldType} {ini : Bool} {pc : Nat}
theorem tw_aI : Cond.arrayClass .int ∈ lw_g := by decide +kernel
theorem tw_aZ : Cond.arrayClass .boolean ∈ lw_g := by decide +kernel
theorem k_newi (hd : decode cc pc = .ok (.newarray .int, 2)) : SOK own cc nL rt ini pc (s_newa (pc + 2) 20) := k_newp (ix := 0) hd rfl (fun _ _ => rfl) tw_aI (fun _ => rfl) (by decide) (by decide) rfl (fun _ _ _ => rfl)
theorem k_newz (hd : decode cc pc = .ok (.newarray .boolean, 2)) : SOK own cc nL rt ini pc (s_newa (pc + 2) 21) := k_newp (ix := 1) hd rfl (fun _ _ => rfl) tw_aZ (fun _ => rfl) (by decide) (by decide) rfl (fun _ _ _ => rfl)
theorem k_newq {t ix x : Nat} {Cn : String} (hd : decode cc pc = .ok (.anewarray x, 3)) (hw : Cond.classLink own x Cn ∈ lw_g) (ho : ∀ U, Nw5 U → va_AO Cn U) (hix : ∀ G, (gty G)[ix]? = some (G.2.1 ix, .object Cn)) (ht : 20 ≤ t ∧ t ≠ 25)
    (hF : ∀ (G : Gh) (h : hp) (a : Nat), Fk G h a t = .inl (G.2.1 ix, haL h (a + 1), .inr (.inr (.inr (.inr (fun j => dr (haR h (a + 1) j))))))) : SOK own cc nL rt ini pc (s_newa (pc + 3) t) := by
  intro p l e R s m args below meth c G K0 d mc ms kk Q C nx hn L S h cu su st h1 h2 K Ls H locs ls hB hS hE hl hs
  unfold s_newa at st
  split at st
  · next k S' =>
    obtain ⟨⟨g1, g2⟩, ⟨g3, g4⟩, st⟩ := st
    have hs2 := (List.forall_mem_cons.mp hs).2
    have hk := i1000 g1 g2
    refine W.anew C.1 C.2.1 C.2.2.2.1 (C.2.2.2.2.1 _ hw) (va_AO.use (ho _ hB.2.2.2.2.2.2.2)) rfl hd rfl g1 (Nat.le_trans (Nat.mul_le_mul hk (Nat.le_refl 4)) (by decide)) (Nat.le_trans g3 C.2.2.2.2.2.1.2.2.1) (Nat.le_trans g4 C.2.2.2.2.2.1.2.2.2) (fun cA kA comp f1 f2 f3 f4 => ?_)
    generalize hH1 : H.push ({ cls := cA, slots := Array.replicate k.toNatClampNeg .null, vm := .none } : Cell) = H1
    have z1 : H1.size = H.size + 1 := by rw [← hH1, Array.size_push]
    have e1 : H1[H.size]? = some (arrV cA k.toNatClampNeg (fun _ => .null)) := by rw [← hH1, Array.getElem?_push_size, ← arrV_new]
    have o1 : ∀ q : Nat, q < H.size → H1[q]? = H[q]? := fun q hq => by rw [← hH1, Array.getElem?_push, if_neg (Nat.ne_of_lt hq)]
    have hcA : cA = G.2.1 ix := by
      obtain ⟨kA', comp', r1, r2, r3, r4⟩ := (hB.1.2 ix _ (hix G)).2
      exact Option.some.inj (f1.symm.trans r4)
    have hK0 := hb_K0 hB
    obtain ⟨n1, n2⟩ := hb_new (h' := warr h (H.size + 1) k.toNatClampNeg) (t := t) hB hS.1 ⟨by omega, ht.2⟩ z1 o1 (by
        rw [hF]
        show H1[H.size]? = some (vp_cell (G.2.1 ix) (va_up h.2.2.2.1 (H.size + 1) k.toNatClampNeg (H.size + 1), .inr (.inr (.inr (.inr (fun j => dr (va_up h.2.2.2.2.1 (H.size + 1) (fun _ => 0) (H.size + 1) j)))))))
        rw [va_up_self, va_up_self, e1, hcA]
        rfl) (fun b hb => by
        have w := warr_o (h := h) (n := k.toNatClampNeg) (show b + 1 ≠ H.size + 1 by omega)
        exact Fk_congr w.1 w.2.1 w.2.2 (fun _ _ => rfl)) rfl (ty_warr hB.2.2.2.2.2.1 hK0 ht.1) (fun b hb => by
        have w := warr_o (h := h) (n := k.toNatClampNeg) (show b + 1 ≠ H.size + 1 by omega)
        exact ⟨w.1, w.2.1⟩) (fun _ => rfl)
    exact hn _ _ _ _ _ _ (st (H.size + 1) hB.2.2.2.1.1) (by omega) (by omega) _ _ H1 locs ls n1 ⟨Nat.le_trans hS.1 (by omega), fun x q1 q2 => (o1 x (Nat.lt_of_lt_of_le q1 hS.1)).trans (hS.2.1 x q1 q2), hS.2.2⟩ (hE.tr n2) (lrel_ext (fun v hv => okv_ext n2 hv) hl) (List.forall_mem_cons.mpr ⟨fun b hb => by cases hb; exact ⟨va_up_self _ _ _, by omega⟩, fun v hv => okv_ext n2 (hs2 v hv)⟩)
  · exact st.elim
theorem k_newq22 {x : Nat} (hd : decode cc pc = .ok (.anewarray x, 3)) (hw : Cond.classLink own x RX1 ∈ lw_g) : SOK own cc nL rt ini pc (s_newa (pc + 3) 22) := k_newq (ix := 2) hd hw (fun _ h => h.1) (fun _ => rfl) (by decide) (fun _ _ _ => rfl)
theorem k_newq23 {x : Nat} (hd : decode cc pc = .ok (.anewarray x, 3)) (hw : Cond.classLink own x RX3 ∈ lw_g) : SOK own cc nL rt ini pc (s_newa (pc + 3) 23) := k_newq (ix := 3) hd hw (fun _ h => h.2.1) (fun _ => rfl) (by decide) (fun _ _ _ => rfl)
theorem k_newq24 {x : Nat} (hd : decode cc pc = .ok (.anewarray x, 3)) (hw : Cond.classLink own x RX5 ∈ lw_g) : SOK own cc nL rt ini pc (s_newa (pc + 3) 24) := k_newq (ix := 4) hd hw (fun _ h => h.2.2.1) (fun _ => rfl) (by decide) (fun _ _ _ => rfl)
theorem k_new {Cn : String} {T : u_T} {N ci x : Nat} {ty0 : Nat → FieldType} (hin : ∀ w ∈ u_ws Cn T N, w ∈ lw_g) (hty : ∀ k, k < N → parseFieldDescriptor (T k).2.2.1 = some (ty0 k)) (hc : vwCl[ci]? = some (Cn, T, N)) (hci : ci < 8) (hN : nF ci = N) (hdv : ∀ j, j < N → defaultValue (ty0 j) = if frt ci j = 0 then .int 0 else .null) (hinst : Cond.instantiable Cn N ∈ lw_g) (hini : Cond.initialized Cn ∈ lw_g) (hd : decode cc pc = .ok (.new x, 3)) (hw : Cond.classLink own x Cn ∈ lw_g) : SOK own cc nL rt ini pc (s_new (pc + 3) (ci + 1) N) := by
  intro p l e R s m args below meth c G K0 d mc ms kk Q C nx hn L S h cu su st h1 h2 K Ls H locs ls hB hS hE hl hs
  obtain ⟨⟨g3, g4⟩, st⟩ := st
  have hKn := hB.1.1 ci _ hc
  refine W.newcK C.1 C.2.1 C.2.2.2.1 (C.2.2.2.2.1 _ hw) (C.2.2.2.2.1 _ hinst) (C.2.2.2.2.1 _ hini) rfl hd (Nat.le_trans g3 C.2.2.2.2.2.1.2.2.1) (Nat.le_trans g4 C.2.2.2.2.2.1.2.2.2) hKn.2.1 rfl (fun H1 kC hkC e1 z1 o1 => ?_)
  have hK0 := hb_K0 hB
  obtain ⟨n1, n2⟩ := hb_new (h' := wobj h (H.size + 1)) (t := ci + 1) hB hS.1 ⟨by omega, by omega⟩ z1 o1 (by
      have e2 : Fk G (wobj h (H.size + 1)) H.size (ci + 1) = .inr (ci, fls (wobj h (H.size + 1)) (H.size + 1) ci) := Fh_obj (K := fun _ => ci + 1) rfl hci
      rw [e2]
      refine ⟨_, hc, (u_born ty0 C.2.2.2.2.1 hin hKn hkC e1 hty).to (fun j hj => ?_)⟩
      rw [hdv j hj]
      show _ = (fls (wobj h (H.size + 1)) (H.size + 1) ci).getD j .null
      rw [List.getD_eq_getElem?_getD, fls_get (by rw [hN]; exact hj)]
      show _ = (if frt ci j = 0 then Value.int (if H.size + 1 = H.size + 1 then 0 else _) else rv (if H.size + 1 = H.size + 1 then 0 else _))
      rw [if_pos rfl, if_pos rfl]
      rfl) (fun b hb => Fk_congr rfl rfl rfl (fun ci j => wobj_o (by omega))) rfl (ty_wobj hB.2.2.2.2.2.1 hK0 (by omega)) (fun b hb => ⟨rfl, rfl⟩) (fun f => by
      show (if 0 = H.size + 1 then 0 else h.2.1 f 0) = _
      rw [if_neg (by omega)]; rfl)
  exact hn _ _ _ _ _ _ (st (H.size + 1) hB.2.2.2.1.1) (by omega) (by omega) _ _ H1 locs ls n1 ⟨Nat.le_trans hS.1 (by omega), fun x q1 q2 => (o1 x (Nat.lt_of_lt_of_le q1 hS.1)).trans (hS.2.1 x q1 q2), hS.2.2⟩ (hE.tr n2) (lrel_ext (fun v hv => okv_ext n2 hv) hl) (List.forall_mem_cons.mpr ⟨fun b hb => by cases hb; exact ⟨va_up_self _ _ _, by omega⟩, fun v hv => okv_ext n2 (hs v hv)⟩)
theorem inX0 : ∀ w ∈ u_ws RX0 TX0 6, w ∈ lw_g := by decide +kernel
theorem tw_in0 : Cond.instantiable RX0 6 ∈ lw_g := by decide +kernel
theorem tw_ii0 : Cond.initialized RX0 ∈ lw_g := by decide +kernel
theorem dvX0 : ∀ j, j < 6 → defaultValue (tyX0 j) = if frt 0 j = 0 then .int 0 else .null := by decide
theorem k_new0 {x : Nat} (hd : decode cc pc = .ok (.new x, 3)) (hw : Cond.classLink own x RX0 ∈ lw_g) : SOK own cc nL rt ini pc (s_new (pc + 3) (0 + 1) 6) := k_new inX0 tyX0_ok rfl (by decide) rfl dvX0 tw_in0 tw_ii0 hd hw
theorem inX1 : ∀ w ∈ u_ws RX1 TX1 10, w ∈ lw_g := by decide +kernel
theorem tw_in1 : Cond.instantiable RX1 10 ∈ lw_g := by decide +kernel
theorem tw_ii1 : Cond.initialized RX1 ∈ lw_g := by decide +kernel
theorem dvX1 : ∀ j, j < 10 → defaultValue (tyX1 j) = if frt 1 j = 0 then .int 0 else .null := by decide
theorem k_new1 {x : Nat} (hd : decode cc pc = .ok (.new x, 3)) (hw : Cond.classLink own x RX1 ∈ lw_g) : SOK own cc nL rt ini pc (s_new (pc + 3) (1 + 1) 10) := k_new inX1 tyX1_ok rfl (by decide) rfl dvX1 tw_in1 tw_ii1 hd hw
theorem inX2 : ∀ w ∈ u_ws RX2 TX2 5, w ∈ lw_g := by decide +kernel
theorem tw_in2 : Cond.instantiable RX2 5 ∈ lw_g := by decide +kernel
theorem tw_ii2 : Cond.initialized RX2 ∈ lw_g := by decide +kernel
theorem dvX2 : ∀ j, j < 5 → defaultValue (tyX2 j) = if frt 2 j = 0 then .int 0 else .null := by decide
theorem k_new2 {x : Nat} (hd : decode cc pc = .ok (.new x, 3)) (hw : Cond.classLink own x RX2 ∈ lw_g) : SOK own cc nL rt ini pc (s_new (pc + 3) (2 + 1) 5) := k_new inX2 tyX2_ok rfl (by decide) rfl dvX2 tw_in2 tw_ii2 hd hw
theorem inX3 : ∀ w ∈ u_ws RX3 TX3 3, w ∈ lw_g := by decide +kernel
theorem tw_in3 : Cond.instantiable RX3 3 ∈ lw_g := by decide +kernel
theorem tw_ii3 : Cond.initialized RX3 ∈ lw_g := by decide +kernel
theorem dvX3 : ∀ j, j < 3 → defaultValue (tyX3 j) = if frt 3 j = 0 then .int 0 else .null := by decide
theorem k_new3 {x : Nat} (hd : decode cc pc = .ok (.new x, 3)) (hw : Cond.classLink own x RX3 ∈ lw_g) : SOK own cc nL rt ini pc (s_new (pc + 3) (3 + 1) 3) := k_new inX3 tyX3_ok rfl (by decide) rfl dvX3 tw_in3 tw_ii3 hd hw
theorem inX4 : ∀ w ∈ u_ws RX4 TX4 6, w ∈ lw_g := by decide +kernel
theorem tw_in4 : Cond.instantiable RX4 6 ∈ lw_g := by decide +kernel
theorem tw_ii4 : Cond.initialized RX4 ∈ lw_g := by decide +kernel
theorem dvX4 : ∀ j, j < 6 → defaultValue (tyX4 j) = if frt 4 j = 0 then .int 0 else .null := by decide
theorem k_new4 {x : Nat} (hd : decode cc pc = .ok (.new x, 3)) (hw : Cond.classLink own x RX4 ∈ lw_g) : SOK own cc nL rt ini pc (s_new (pc + 3) (4 + 1) 6) := k_new inX4 tyX4_ok rfl (by decide) rfl dvX4 tw_in4 tw_ii4 hd hw
theorem inX5 : ∀ w ∈ u_ws RX5 TX5 4, w ∈ lw_g := by decide +kernel
theorem tw_in5 : Cond.instantiable RX5 4 ∈ lw_g := by decide +kernel
theorem tw_ii5 : Cond.initialized RX5 ∈ lw_g := by decide +kernel
theorem dvX5 : ∀ j, j < 4 → defaultValue (tyX5 j) = if frt 5 j = 0 then .int 0 else .null := by decide
theorem k_new5 {x : Nat} (hd : decode cc pc = .ok (.new x, 3)) (hw : Cond.classLink own x RX5 ∈ lw_g) : SOK own cc nL rt ini pc (s_new (pc + 3) (5 + 1) 4) := k_new inX5 tyX5_ok rfl (by decide) rfl dvX5 tw_in5 tw_ii5 hd hw
theorem inX6 : ∀ w ∈ u_ws RX6 TX6 14, w ∈ lw_g := by decide +kernel
theorem tw_in6 : Cond.instantiable RX6 14 ∈ lw_g := by decide +kernel
theorem tw_ii6 : Cond.initialized RX6 ∈ lw_g := by decide +kernel
theorem dvX6 : ∀ j, j < 14 → defaultValue (tyX6 j) = if frt 6 j = 0 then .int 0 else .null := by decide
theorem k_new6 {x : Nat} (hd : decode cc pc = .ok (.new x, 3)) (hw : Cond.classLink own x RX6 ∈ lw_g) : SOK own cc nL rt ini pc (s_new (pc + 3) (6 + 1) 14) := k_new inX6 tyX6_ok rfl (by decide) rfl dvX6 tw_in6 tw_ii6 hd hw
theorem inX7 : ∀ w ∈ u_ws RX7 TX7 39, w ∈ lw_g := by decide +kernel
theorem tw_in7 : Cond.instantiable RX7 39 ∈ lw_g := by decide +kernel
theorem tw_ii7 : Cond.initialized RX7 ∈ lw_g := by decide +kernel
theorem dvX7 : ∀ j, j < 39 → defaultValue (tyX7 j) = if frt 7 j = 0 then .int 0 else .null := by decide
theorem k_new7 {x : Nat} (hd : decode cc pc = .ok (.new x, 3)) (hw : Cond.classLink own x RX7 ∈ lw_g) : SOK own cc nL rt ini pc (s_new (pc + 3) (7 + 1) 39) := k_new inX7 tyX7_ok rfl (by decide) rfl dvX7 tw_in7 tw_ii7 hd hw
theorem tw_oi1 : Cond.instanceMethod Lib.objectInit ∈ lw_g := by decide +kernel
theorem tw_oi2 : Cond.code Lib.objectInit ⟨#[0xb1]⟩ 1 none ∈ lw_g := by decide +kernel
theorem tw_mx1 : Cond.static Lib.Math.max.name ∈ lw_g := by decide +kernel
theorem tw_mx2 : Cond.initialized "java/lang/Math" ∈ lw_g := by decide +kernel
theorem tw_mx3 : Cond.code Lib.Math.max.name Lib.Math.max.code 2 (some .int) ∈ lw_g := by decide +kernel
theorem tw_mn1 : Cond.static Lib.Math.min.name ∈ lw_g := by decide +kernel
theorem tw_mn3 : Cond.code Lib.Math.min.name Lib.Math.min.code 2 (some .int) ∈ lw_g := by decide +kernel
theorem tw_ac1 : Cond.native arraycopyName ∈ lw_g := by decide +kernel
theorem tw_ac2 : Cond.static arraycopyName ∈ lw_g := by decide +kernel
theorem tw_ac3 : Cond.initialized "java/lang/System" ∈ lw_g := by decide +kernel
theorem sw_cat (S : List pv) : ((S.map tv).map (fun v => v.category)).sum = sw S := by
  induction S with
  | nil => rfl
  | cons v S ih =>
    rcases v with v | v | ⟨t, x⟩
    · rw [List.map_cons, List.map_cons, List.sum_cons, ih]
      show 1 + sw S = sw S + 1
      omega
    · rw [List.map_cons, List.map_cons, List.sum_cons, ih]
      show 2 + sw S = sw S + 2
      omega
    · have : (tv (.inr (.inr (t, x)))).category = 1 := by cases x <;> rfl
      rw [List.map_cons, List.map_cons, List.sum_cons, this, ih]
      show _ = sw S + 1
      omega
theorem k_oinit {x : Nat} (hd : decode cc pc = .ok (.invokespecial x, 3)) (hw : Cond.methodLink own x Lib.objectInit ∈ lw_g) : SOK own cc nL rt ini pc (s_oinit (pc + 3)) := by
  intro p l e R s m args below meth c G K0 d mc ms kk Q C nx hn L S h cu su st h1 h2 K Ls H locs ls hB hS hE hl hs
  unfold s_oinit at st
  split at st
  · next t y S' =>
    have hs2 := (List.forall_mem_cons.mp hs).2
    cases hb : Nat.ble (sw S') 8 with
    | false => rw [hb] at st; exact st.elim
    | true =>
      rw [hb] at st
      have hb := Nat.le_of_ble_eq_true hb
      cases y with
      | zero => exact (st : False).elim
      | succ a =>
        cases d with
        | zero => exact (st : False).elim
        | succ d =>
          have st : nx (pc + 3) L S' h cu su := st
          have r := C.2.2.2.2.2.1
          refine W.objInit C.1 C.2.1 C.2.2.2.1 (C.2.2.2.2.1 _ hw) (C.2.2.2.2.1 _ tw_oi1) (C.2.2.2.2.1 _ tw_oi2) rfl (by rw [C.2.2.1]; exact hl.1) rfl hd (Nat.le_trans (by omega) r.1) (Nat.le_trans ?_ r.2.1) (hn _ _ _ _ _ _ st h1 h2 K Ls H locs ls hB hS hE hl hs2)
          show 2 * 0 + ((S'.map tv).map fun v => v.category).sum + 12 ≤ _
          rw [sw_cat]
          omega
  · exact st.elim
theorem k_max {x : Nat} (hd : decode cc pc = .ok (.invokestatic x, 3)) (hw : Cond.methodLink own x Lib.Math.max.name ∈ lw_g) : SOK own cc nL rt ini pc (s_mm (pc + 3) (fun a b => if a < b then b else a)) := by
  intro p l e R s m args below meth c G K0 d mc ms kk Q C nx hn L S h cu su st h1 h2 K Ls H locs ls hB hS hE hl hs
  unfold s_mm at st
  split at st
  · next a b S' =>
    have hs2 := (List.forall_mem_cons.mp (List.forall_mem_cons.mp hs).2).2
    cases hb : Nat.ble (sw S') 8 with
    | false => rw [hb] at st; exact st.elim
    | true =>
      rw [hb] at st
      have hb := Nat.le_of_ble_eq_true hb
      cases d with
      | zero => exact (st : False).elim
      | succ d =>
        have r := C.2.2.2.2.2.1
        refine va_mmax C.1 C.2.1 (by rw [C.2.2.1]; exact hl.1.symm) C.2.2.2.1 (C.2.2.2.2.1 _ hw) (C.2.2.2.2.1 _ tw_mx1) (C.2.2.2.2.1 _ tw_mx2) (C.2.2.2.2.1 _ tw_mx3) (Nat.le_trans (by omega) r.1) (Nat.le_trans ?_ r.2.1) (Nat.le_trans h1 r.2.2.1) (Nat.le_trans h2 r.2.2.2) hd (hn _ _ _ _ _ _ st h1 h2 K Ls H locs ls hB hS hE hl (List.forall_mem_cons.mpr ⟨trivial, hs2⟩))
        rw [sw_cat]
        omega
  · exact st.elim
theorem k_min {x : Nat} (hd : decode cc pc = .ok (.invokestatic x, 3)) (hw : Cond.methodLink own x Lib.Math.min.name ∈ lw_g) : SOK own cc nL rt ini pc (s_mm (pc + 3) (fun a b => if b < a then b else a)) := by
  intro p l e R s m args below meth c G K0 d mc ms kk Q C nx hn L S h cu su st h1 h2 K Ls H locs ls hB hS hE hl hs
  unfold s_mm at st
  split at st
  · next a b S' =>
    have hs2 := (List.forall_mem_cons.mp (List.forall_mem_cons.mp hs).2).2
    cases hb : Nat.ble (sw S') 8 with
    | false => rw [hb] at st; exact st.elim
    | true =>
      rw [hb] at st
      have hb := Nat.le_of_ble_eq_true hb
      cases d with
      | zero => exact (st : False).elim
      | succ d =>
        have r := C.2.2.2.2.2.1
        refine va_mmin C.1 C.2.1 (by rw [C.2.2.1]; exact hl.1.symm) C.2.2.2.1 (C.2.2.2.2.1 _ hw) (C.2.2.2.2.1 _ tw_mn1) (C.2.2.2.2.1 _ tw_mx2) (C.2.2.2.2.1 _ tw_mn3) (Nat.le_trans (by omega) r.1) (Nat.le_trans ?_ r.2.1) (Nat.le_trans h1 r.2.2.1) (Nat.le_trans h2 r.2.2.2) hd (hn _ _ _ _ _ _ st h1 h2 K Ls H locs ls hB hS hE hl (List.forall_mem_cons.mpr ⟨trivial, hs2⟩))
        rw [sw_cat]
        omega
  · exact st.elim
theorem k_acopy {x : Nat} (hd : decode cc pc = .ok (.invokestatic x, 3)) (hw : Cond.methodLink own x arraycopyName ∈ lw_g) : SOK own cc nL rt ini pc (s_acopy (pc + 3)) := by
  intro p l e R s m args below meth c G K0 d mc ms kk Q C nx hn L S h cu su st h1 h2 K Ls H locs ls hB hS hE hl hs
  unfold s_acopy at st
  split at st
  · next k j t2 y i t1 x S' =>
    obtain ⟨hy, hs2⟩ := List.forall_mem_cons.mp (List.forall_mem_cons.mp (List.forall_mem_cons.mp hs).2).2
    obtain ⟨hx, hs3⟩ := List.forall_mem_cons.mp (List.forall_mem_cons.mp hs2).2
    cases hb : (Nat.beq t1 20 && Nat.beq t2 20) && Nat.ble (sw S') 8 with
    | false => rw [hb] at st; exact st.elim
    | true =>
      rw [hb] at st
      obtain ⟨hb1, hb2⟩ := Bool.and_eq_true_iff.mp hb
      obtain ⟨e1, e2⟩ := Bool.and_eq_true_iff.mp hb1
      have e1 := Nat.eq_of_beq_eq_true e1
      have e2 := Nat.eq_of_beq_eq_true e2
      subst e1; subst e2
      have hb2 := Nat.le_of_ble_eq_true hb2
      cases x with
      | zero => exact (st : False).elim
      | succ a =>
        cases y with
        | zero => exact (st : False).elim
        | succ b =>
          cases d with
          | zero => exact (st : False).elim
          | succ d =>
            have st : (¬ i < 0 ∧ ¬ j < 0 ∧ ¬ k < 0 ∧ i.toNatClampNeg + k.toNatClampNeg ≤ haL h (a + 1) ∧ j.toNatClampNeg + k.toNatClampNeg ≤ haL h (b + 1)) ∧ nx (pc + 3) L S' (waI h (b + 1) (va_cpy (haI h (a + 1)) (haI h (b + 1)) i.toNatClampNeg j.toNatClampNeg k.toNatClampNeg)) cu su := st
            have r := C.2.2.2.2.2.1
            have hka : K a = 20 := (hx a rfl).1
            have hkb : K b = 20 := (hy b rfl).1
            obtain ⟨qa, hqa⟩ := hb_at hB (a := a) (by omega) (by omega)
            obtain ⟨qb, hqb⟩ := hb_at hB (a := b) (by omega) (by omega)
            rw [Fh_20 hka] at hqa
            rw [Fh_20 hkb] at hqb
            refine va_copyi (D := G.1) C.1 C.2.1 (by rw [C.2.2.1]; exact hl.1.symm) C.2.2.2.1 (C.2.2.2.2.1 _ hw) (C.2.2.2.2.1 _ tw_ac1) (C.2.2.2.2.1 _ tw_ac2) (C.2.2.2.2.1 _ tw_ac3) hB.1 hB.2.1 hB.2.2.1 (vS_here hS) qa qb 0 0 hqa hqb rfl rfl rfl st.1.1 st.1.2.1 st.1.2.2.1 st.1.2.2.2.1 st.1.2.2.2.2 (fun _ _ => rfl) (Nat.le_trans (by omega) r.1) (Nat.le_trans ?_ r.2.1) hd (fun H1 locs1 hP1 hD1 hS1 => hn _ _ _ _ _ _ st.2 h1 h2 K Ls H1 locs1 ls (hb_waI20 hB hkb hqb hP1 hD1 hS1) (vS_trans hS hS1) hE hl hs3)
            rw [sw_cat]
            have : nativeFrameWords "java/lang/System" "arraycopy" 5 ≤ 40 := by decide
            omega
  · exact st.elim
end K5
