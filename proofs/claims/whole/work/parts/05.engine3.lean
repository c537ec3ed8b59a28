/-! ===== ENGINE: the steps that touch no heap ===== -/
theorem tv_cat1 {v : pv} (h : ∀ l, v ≠ .inr (.inl l)) : (tv v).category = 1 := by
  rcases v with v | v | ⟨t, x⟩
  · rfl
  · exact absurd rfl (h v)
  · cases x <;> rfl
section K1
variable {own : String} {cc : ByteArray} {nL : Nat} {rt : Option FieldType} {ini : Bool} {pc : Nat}
theorem k_iconst {n : Int} {v : Int32} (hd : decode cc pc = .ok (.iconst n, 1)) (hv : Int32.ofInt n = v) : SOK own cc nL rt ini pc (s_ic (pc + 1) v) := by
  intro p l e R s m args below meth c G K0 d mc ms kk Q C nx hn L S h cu su st h1 h2 K Ls H locs ls hB hS hE hl hs
  exact lv_iconst C.1 C.2.1 hd hv (hn _ _ _ _ _ _ st h1 h2 K Ls H locs ls hB hS hE hl (List.forall_mem_cons.mpr ⟨trivial, hs⟩))
theorem k_bipush {n : Int} {v : Int32} (hd : decode cc pc = .ok (.bipush n, 2)) (hv : (Int8.ofInt n).toInt32 = v) : SOK own cc nL rt ini pc (s_ic (pc + 2) v) := by
  intro p l e R s m args below meth c G K0 d mc ms kk Q C nx hn L S h cu su st h1 h2 K Ls H locs ls hB hS hE hl hs
  exact lv_bipush C.1 C.2.1 hd hv (hn _ _ _ _ _ _ st h1 h2 K Ls H locs ls hB hS hE hl (List.forall_mem_cons.mpr ⟨trivial, hs⟩))
theorem k_sipush {n : Int} {v : Int32} (hd : decode cc pc = .ok (.sipush n, 3)) (hv : (Int16.ofInt n).toInt32 = v) : SOK own cc nL rt ini pc (s_ic (pc + 3) v) := by
  intro p l e R s m args below meth c G K0 d mc ms kk Q C nx hn L S h cu su st h1 h2 K Ls H locs ls hB hS hE hl hs
  exact lv_sipush C.1 C.2.1 hd hv (hn _ _ _ _ _ _ st h1 h2 K Ls H locs ls hB hS hE hl (List.forall_mem_cons.mpr ⟨trivial, hs⟩))
theorem k_ldc {x : Nat} {v : Int32} (hd : decode cc pc = .ok (.ldc x, 2)) (hw : Cond.constant own x v ∈ lw_g) : SOK own cc nL rt ini pc (s_ic (pc + 2) v) := by
  intro p l e R s m args below meth c G K0 d mc ms kk Q C nx hn L S h cu su st h1 h2 K Ls H locs ls hB hS hE hl hs
  exact lv_ldc C.1 C.2.1 C.2.2.2.1 (C.2.2.2.2.1 _ hw) hd (hn _ _ _ _ _ _ st h1 h2 K Ls H locs ls hB hS hE hl (List.forall_mem_cons.mpr ⟨trivial, hs⟩))
theorem k_ldc_w {x : Nat} {v : Int32} (hd : decode cc pc = .ok (.ldc_w x, 3)) (hw : Cond.constant own x v ∈ lw_g) : SOK own cc nL rt ini pc (s_ic (pc + 3) v) := by
  intro p l e R s m args below meth c G K0 d mc ms kk Q C nx hn L S h cu su st h1 h2 K Ls H locs ls hB hS hE hl hs
  exact lv_ldcw C.1 C.2.1 C.2.2.2.1 (C.2.2.2.2.1 _ hw) hd (hn _ _ _ _ _ _ st h1 h2 K Ls H locs ls hB hS hE hl (List.forall_mem_cons.mpr ⟨trivial, hs⟩))
theorem k_lconst {n : Fin 2} {v : Int64} (hd : decode cc pc = .ok (.lconst n, 1)) (hv : Int64.ofNat (n : Nat) = v) : SOK own cc nL rt ini pc (s_lc (pc + 1) v) := by
  intro p l e R s m args below meth c G K0 d mc ms kk Q C nx hn L S h cu su st h1 h2 K Ls H locs ls hB hS hE hl hs
  exact lv_lconst C.1 C.2.1 hd hv (hn _ _ _ _ _ _ st h1 h2 K Ls H locs ls hB hS hE hl (List.forall_mem_cons.mpr ⟨trivial, hs⟩))
theorem k_ldc2 {x : Nat} {v : Int64} (hd : decode cc pc = .ok (.ldc2_w x, 3)) (hw : Cond.constantLong own x v ∈ lw_g) : SOK own cc nL rt ini pc (s_lc (pc + 3) v) := by
  intro p l e R s m args below meth c G K0 d mc ms kk Q C nx hn L S h cu su st h1 h2 K Ls H locs ls hB hS hE hl hs
  exact lv_ldc2 C.1 C.2.1 C.2.2.2.1 (C.2.2.2.2.1 _ hw) hd (hn _ _ _ _ _ _ st h1 h2 K Ls H locs ls hB hS hE hl (List.forall_mem_cons.mpr ⟨trivial, hs⟩))
theorem k_null (hd : decode cc pc = .ok (.aconst_null, 1)) : SOK own cc nL rt ini pc (s_null (pc + 1)) := by
  intro p l e R s m args below meth c G K0 d mc ms kk Q C nx hn L S h cu su st h1 h2 K Ls H locs ls hB hS hE hl hs
  exact lv_null C.1 C.2.1 hd (hn _ _ _ _ _ _ st h1 h2 K Ls H locs ls hB hS hE hl (List.forall_mem_cons.mpr ⟨fun b hb => by omega, hs⟩))
-- loads
theorem k_iload_n {k : Fin 4} {i : Nat} (hd : decode cc pc = .ok (.iload_n k, 1)) (hi : (k : Nat) = i) : SOK own cc nL rt ini pc (s_ild (pc + 1) i) := by
  intro p l e R s m args below meth c G K0 d mc ms kk Q C nx hn L S h cu su st h1 h2 K Ls H locs ls hB hS hE hl hs
  unfold s_ild at st
  split at st
  · next x hx => exact lv_iload_n C.1 C.2.1 hd hi (hl.2.2.2 i _ hx).1 (hn _ _ _ _ _ _ st h1 h2 K Ls H locs ls hB hS hE hl (List.forall_mem_cons.mpr ⟨trivial, hs⟩))
  · exact st.elim
theorem k_iload {i : Nat} (hd : decode cc pc = .ok (.iload i, 2)) : SOK own cc nL rt ini pc (s_ild (pc + 2) i) := by
  intro p l e R s m args below meth c G K0 d mc ms kk Q C nx hn L S h cu su st h1 h2 K Ls H locs ls hB hS hE hl hs
  unfold s_ild at st
  split at st
  · next x hx => exact lv_iload C.1 C.2.1 hd (hl.2.2.2 i _ hx).1 (hn _ _ _ _ _ _ st h1 h2 K Ls H locs ls hB hS hE hl (List.forall_mem_cons.mpr ⟨trivial, hs⟩))
  · exact st.elim
theorem k_lload_n {k : Fin 4} {i : Nat} (hd : decode cc pc = .ok (.lload_n k, 1)) (hi : (k : Nat) = i) : SOK own cc nL rt ini pc (s_lld (pc + 1) i) := by
  intro p l e R s m args below meth c G K0 d mc ms kk Q C nx hn L S h cu su st h1 h2 K Ls H locs ls hB hS hE hl hs
  unfold s_lld at st
  split at st
  · next x hx => exact lv_lload_n C.1 C.2.1 hd hi (hl.2.2.2 i _ hx).1 (hn _ _ _ _ _ _ st h1 h2 K Ls H locs ls hB hS hE hl (List.forall_mem_cons.mpr ⟨trivial, hs⟩))
  · exact st.elim
theorem k_lload {i : Nat} (hd : decode cc pc = .ok (.lload i, 2)) : SOK own cc nL rt ini pc (s_lld (pc + 2) i) := by
  intro p l e R s m args below meth c G K0 d mc ms kk Q C nx hn L S h cu su st h1 h2 K Ls H locs ls hB hS hE hl hs
  unfold s_lld at st
  split at st
  · next x hx => exact lv_lload C.1 C.2.1 hd (hl.2.2.2 i _ hx).1 (hn _ _ _ _ _ _ st h1 h2 K Ls H locs ls hB hS hE hl (List.forall_mem_cons.mpr ⟨trivial, hs⟩))
  · exact st.elim
theorem k_aload_n {k : Fin 4} {i : Nat} (hd : decode cc pc = .ok (.aload_n k, 1)) (hi : (k : Nat) = i) : SOK own cc nL rt ini pc (s_ald (pc + 1) i) := by
  intro p l e R s m args below meth c G K0 d mc ms kk Q C nx hn L S h cu su st h1 h2 K Ls H locs ls hB hS hE hl hs
  unfold s_ald at st
  split at st
  · next x hx =>
    obtain ⟨g1, g2⟩ := hl.2.2.2 i _ hx
    have k := hn _ _ _ _ _ _ st h1 h2 K Ls H locs ls hB hS hE hl (List.forall_mem_cons.mpr ⟨g2, hs⟩)
    obtain ⟨t, x⟩ := x
    cases x with
    | zero => exact lv_aload_nN C.1 C.2.1 hd hi g1 k
    | succ x => exact lv_aload_n C.1 C.2.1 hd hi g1 k
  · exact st.elim
theorem k_aload {i : Nat} (hd : decode cc pc = .ok (.aload i, 2)) : SOK own cc nL rt ini pc (s_ald (pc + 2) i) := by
  intro p l e R s m args below meth c G K0 d mc ms kk Q C nx hn L S h cu su st h1 h2 K Ls H locs ls hB hS hE hl hs
  unfold s_ald at st
  split at st
  · next x hx =>
    obtain ⟨g1, g2⟩ := hl.2.2.2 i _ hx
    have k := hn _ _ _ _ _ _ st h1 h2 K Ls H locs ls hB hS hE hl (List.forall_mem_cons.mpr ⟨g2, hs⟩)
    obtain ⟨t, x⟩ := x
    cases x with
    | zero => exact lv_aloadN C.1 C.2.1 hd g1 k
    | succ x => exact lv_aload C.1 C.2.1 hd g1 k
  · exact st.elim
-- stores
theorem k_istore_n {k : Fin 4} {i : Nat} (hd : decode cc pc = .ok (.istore_n k, 1)) (hi : (k : Nat) = i) (hL : i < nL) : SOK own cc nL rt ini pc (s_ist (pc + 1) i) := by
  intro p l e R s m args below meth c G K0 d mc ms kk Q C nx hn L S h cu su st h1 h2 K Ls H locs ls hB hS hE hl hs
  unfold s_ist at st
  split at st
  · next x S' => exact lv_istore_n C.1 C.2.1 hd hi (lrel_asc hl) hL rfl (fun ls' hl' => hn _ _ _ _ _ _ st h1 h2 K Ls H locs ls' hB hS hE (lrel_set (v := .inl x) hl trivial hl') (List.forall_mem_cons.mp hs).2)
  · exact st.elim
theorem k_istore {i : Nat} (hd : decode cc pc = .ok (.istore i, 2)) (hL : i < nL) : SOK own cc nL rt ini pc (s_ist (pc + 2) i) := by
  intro p l e R s m args below meth c G K0 d mc ms kk Q C nx hn L S h cu su st h1 h2 K Ls H locs ls hB hS hE hl hs
  unfold s_ist at st
  split at st
  · next x S' => exact lv_istore C.1 C.2.1 hd (lrel_asc hl) hL rfl (fun ls' hl' => hn _ _ _ _ _ _ st h1 h2 K Ls H locs ls' hB hS hE (lrel_set (v := .inl x) hl trivial hl') (List.forall_mem_cons.mp hs).2)
  · exact st.elim
theorem k_lstore_n {k : Fin 4} {i : Nat} (hd : decode cc pc = .ok (.lstore_n k, 1)) (hi : (k : Nat) = i) (hL : i + 1 < nL) : SOK own cc nL rt ini pc (s_lst (pc + 1) i) := by
  intro p l e R s m args below meth c G K0 d mc ms kk Q C nx hn L S h cu su st h1 h2 K Ls H locs ls hB hS hE hl hs
  unfold s_lst at st
  split at st
  · next x S' => exact lv_lstore_n C.1 C.2.1 hd hi (lrel_asc hl) hL rfl (fun ls' hl' => hn _ _ _ _ _ _ st h1 h2 K Ls H locs ls' hB hS hE (lrel_set2 (v := .inr (.inl x)) hl hL trivial hl') (List.forall_mem_cons.mp hs).2)
  · exact st.elim
theorem k_lstore {i : Nat} (hd : decode cc pc = .ok (.lstore i, 2)) (hL : i + 1 < nL) : SOK own cc nL rt ini pc (s_lst (pc + 2) i) := by
  intro p l e R s m args below meth c G K0 d mc ms kk Q C nx hn L S h cu su st h1 h2 K Ls H locs ls hB hS hE hl hs
  unfold s_lst at st
  split at st
  · next x S' => exact lv_lstore C.1 C.2.1 hd (lrel_asc hl) hL rfl (fun ls' hl' => hn _ _ _ _ _ _ st h1 h2 K Ls H locs ls' hB hS hE (lrel_set2 (v := .inr (.inl x)) hl hL trivial hl') (List.forall_mem_cons.mp hs).2)
  · exact st.elim
theorem k_astore_n {k : Fin 4} {i : Nat} (hd : decode cc pc = .ok (.astore_n k, 1)) (hi : (k : Nat) = i) (hL : i < nL) : SOK own cc nL rt ini pc (s_ast (pc + 1) i) := by
  intro p l e R s m args below meth c G K0 d mc ms kk Q C nx hn L S h cu su st h1 h2 K Ls H locs ls hB hS hE hl hs
  unfold s_ast at st
  split at st
  · next x S' =>
    obtain ⟨hx, hs2⟩ := List.forall_mem_cons.mp hs
    obtain ⟨t, x⟩ := x
    cases x with
    | zero => exact lv_astore_nN C.1 C.2.1 hd hi (lrel_asc hl) hL rfl (fun ls' hl' => hn _ _ _ _ _ _ st h1 h2 K Ls H locs ls' hB hS hE (lrel_set (v := .inr (.inr (t, 0))) hl hx hl') hs2)
    | succ x => exact lv_astore_n C.1 C.2.1 hd hi (lrel_asc hl) hL rfl (fun ls' hl' => hn _ _ _ _ _ _ st h1 h2 K Ls H locs ls' hB hS hE (lrel_set (v := .inr (.inr (t, x + 1))) hl hx hl') hs2)
  · exact st.elim
theorem k_astore {i : Nat} (hd : decode cc pc = .ok (.astore i, 2)) (hL : i < nL) : SOK own cc nL rt ini pc (s_ast (pc + 2) i) := by
  intro p l e R s m args below meth c G K0 d mc ms kk Q C nx hn L S h cu su st h1 h2 K Ls H locs ls hB hS hE hl hs
  unfold s_ast at st
  split at st
  · next x S' =>
    obtain ⟨hx, hs2⟩ := List.forall_mem_cons.mp hs
    obtain ⟨t, x⟩ := x
    cases x with
    | zero => exact lv_astoreN C.1 C.2.1 hd (lrel_asc hl) hL rfl (fun ls' hl' => hn _ _ _ _ _ _ st h1 h2 K Ls H locs ls' hB hS hE (lrel_set (v := .inr (.inr (t, 0))) hl hx hl') hs2)
    | succ x => exact lv_astore C.1 C.2.1 hd (lrel_asc hl) hL rfl (fun ls' hl' => hn _ _ _ _ _ _ st h1 h2 K Ls H locs ls' hB hS hE (lrel_set (v := .inr (.inr (t, x + 1))) hl hx hl') hs2)
  · exact st.elim
theorem k_iinc {i : Nat} {n : Int} {v : Int32} (hd : decode cc pc = .ok (.iinc i n, 3)) (hv : Int32.ofInt n = v) (hL : i < nL) : SOK own cc nL rt ini pc (s_inc (pc + 3) i v) := by
  intro p l e R s m args below meth c G K0 d mc ms kk Q C nx hn L S h cu su st h1 h2 K Ls H locs ls hB hS hE hl hs
  unfold s_inc at st
  split at st
  · next x hx =>
    subst hv
    obtain ⟨k, hk⟩ := List.getElem?_of_mem (asc_mem hL hx)
    exact lv_iinc C.1 C.2.1 hd (lrel_asc hl) hk rfl hL rfl (fun ls' hl' => hn _ _ _ _ _ _ st h1 h2 K Ls H locs ls' hB hS hE (lrel_set (v := .inl (x + Int32.ofInt n)) hl trivial hl') hs)
  · exact st.elim
theorem k_iadd (hd : decode cc pc = .ok (.iadd, 1)) : SOK own cc nL rt ini pc (s_i2 (pc + 1) (fun a b => a + b)) := by
  intro p l e R s m args below meth c G K0 d mc ms kk Q C nx hn L S h cu su st h1 h2 K Ls H locs ls hB hS hE hl hs
  unfold s_i2 at st
  split at st
  · exact lv_iadd C.1 C.2.1 hd (hn _ _ _ _ _ _ st h1 h2 K Ls H locs ls hB hS hE hl (List.forall_mem_cons.mpr ⟨trivial, (List.forall_mem_cons.mp (List.forall_mem_cons.mp hs).2).2⟩))
  · exact st.elim
theorem k_isub (hd : decode cc pc = .ok (.isub, 1)) : SOK own cc nL rt ini pc (s_i2 (pc + 1) (fun a b => a - b)) := by
  intro p l e R s m args below meth c G K0 d mc ms kk Q C nx hn L S h cu su st h1 h2 K Ls H locs ls hB hS hE hl hs
  unfold s_i2 at st
  split at st
  · exact lv_isub C.1 C.2.1 hd (hn _ _ _ _ _ _ st h1 h2 K Ls H locs ls hB hS hE hl (List.forall_mem_cons.mpr ⟨trivial, (List.forall_mem_cons.mp (List.forall_mem_cons.mp hs).2).2⟩))
  · exact st.elim
theorem k_imul (hd : decode cc pc = .ok (.imul, 1)) : SOK own cc nL rt ini pc (s_i2 (pc + 1) (fun a b => a * b)) := by
  intro p l e R s m args below meth c G K0 d mc ms kk Q C nx hn L S h cu su st h1 h2 K Ls H locs ls hB hS hE hl hs
  unfold s_i2 at st
  split at st
  · exact lv_imul C.1 C.2.1 hd (hn _ _ _ _ _ _ st h1 h2 K Ls H locs ls hB hS hE hl (List.forall_mem_cons.mpr ⟨trivial, (List.forall_mem_cons.mp (List.forall_mem_cons.mp hs).2).2⟩))
  · exact st.elim
theorem k_iand (hd : decode cc pc = .ok (.iand, 1)) : SOK own cc nL rt ini pc (s_i2 (pc + 1) (fun a b => a &&& b)) := by
  intro p l e R s m args below meth c G K0 d mc ms kk Q C nx hn L S h cu su st h1 h2 K Ls H locs ls hB hS hE hl hs
  unfold s_i2 at st
  split at st
  · exact lv_iand C.1 C.2.1 hd (hn _ _ _ _ _ _ st h1 h2 K Ls H locs ls hB hS hE hl (List.forall_mem_cons.mpr ⟨trivial, (List.forall_mem_cons.mp (List.forall_mem_cons.mp hs).2).2⟩))
  · exact st.elim
theorem k_ior (hd : decode cc pc = .ok (.ior, 1)) : SOK own cc nL rt ini pc (s_i2 (pc + 1) (fun a b => a ||| b)) := by
  intro p l e R s m args below meth c G K0 d mc ms kk Q C nx hn L S h cu su st h1 h2 K Ls H locs ls hB hS hE hl hs
  unfold s_i2 at st
  split at st
  · exact lv_ior C.1 C.2.1 hd (hn _ _ _ _ _ _ st h1 h2 K Ls H locs ls hB hS hE hl (List.forall_mem_cons.mpr ⟨trivial, (List.forall_mem_cons.mp (List.forall_mem_cons.mp hs).2).2⟩))
  · exact st.elim
theorem k_ixor (hd : decode cc pc = .ok (.ixor, 1)) : SOK own cc nL rt ini pc (s_i2 (pc + 1) (fun a b => a ^^^ b)) := by
  intro p l e R s m args below meth c G K0 d mc ms kk Q C nx hn L S h cu su st h1 h2 K Ls H locs ls hB hS hE hl hs
  unfold s_i2 at st
  split at st
  · exact lv_ixor C.1 C.2.1 hd (hn _ _ _ _ _ _ st h1 h2 K Ls H locs ls hB hS hE hl (List.forall_mem_cons.mpr ⟨trivial, (List.forall_mem_cons.mp (List.forall_mem_cons.mp hs).2).2⟩))
  · exact st.elim
theorem k_ishl (hd : decode cc pc = .ok (.ishl, 1)) : SOK own cc nL rt ini pc (s_i2 (pc + 1) (fun a b => a <<< (b &&& 31))) := by
  intro p l e R s m args below meth c G K0 d mc ms kk Q C nx hn L S h cu su st h1 h2 K Ls H locs ls hB hS hE hl hs
  unfold s_i2 at st
  split at st
  · exact lv_ishl C.1 C.2.1 hd (hn _ _ _ _ _ _ st h1 h2 K Ls H locs ls hB hS hE hl (List.forall_mem_cons.mpr ⟨trivial, (List.forall_mem_cons.mp (List.forall_mem_cons.mp hs).2).2⟩))
  · exact st.elim
theorem k_ishr (hd : decode cc pc = .ok (.ishr, 1)) : SOK own cc nL rt ini pc (s_i2 (pc + 1) (fun a b => a >>> (b &&& 31))) := by
  intro p l e R s m args below meth c G K0 d mc ms kk Q C nx hn L S h cu su st h1 h2 K Ls H locs ls hB hS hE hl hs
  unfold s_i2 at st
  split at st
  · exact lv_ishr C.1 C.2.1 hd (hn _ _ _ _ _ _ st h1 h2 K Ls H locs ls hB hS hE hl (List.forall_mem_cons.mpr ⟨trivial, (List.forall_mem_cons.mp (List.forall_mem_cons.mp hs).2).2⟩))
  · exact st.elim
theorem k_iushr (hd : decode cc pc = .ok (.iushr, 1)) : SOK own cc nL rt ini pc (s_i2 (pc + 1) (fun a b => (a.toUInt32 >>> (b.toUInt32 &&& Int32.toUInt32 31)).toInt32)) := by
  intro p l e R s m args below meth c G K0 d mc ms kk Q C nx hn L S h cu su st h1 h2 K Ls H locs ls hB hS hE hl hs
  unfold s_i2 at st
  split at st
  · exact lv_iushr C.1 C.2.1 hd rfl (hn _ _ _ _ _ _ st h1 h2 K Ls H locs ls hB hS hE hl (List.forall_mem_cons.mpr ⟨trivial, (List.forall_mem_cons.mp (List.forall_mem_cons.mp hs).2).2⟩))
  · exact st.elim
theorem k_idiv (hd : decode cc pc = .ok (.idiv, 1)) : SOK own cc nL rt ini pc (s_iq (pc + 1) (fun a b => a / b)) := by
  intro p l e R s m args below meth c G K0 d mc ms kk Q C nx hn L S h cu su st h1 h2 K Ls H locs ls hB hS hE hl hs
  unfold s_iq at st
  split at st
  · exact lv_idiv C.1 C.2.1 hd st.1 (hn _ _ _ _ _ _ st.2 h1 h2 K Ls H locs ls hB hS hE hl (List.forall_mem_cons.mpr ⟨trivial, (List.forall_mem_cons.mp (List.forall_mem_cons.mp hs).2).2⟩))
  · exact st.elim
theorem k_irem (hd : decode cc pc = .ok (.irem, 1)) : SOK own cc nL rt ini pc (s_iq (pc + 1) (fun a b => a - a / b * b)) := by
  intro p l e R s m args below meth c G K0 d mc ms kk Q C nx hn L S h cu su st h1 h2 K Ls H locs ls hB hS hE hl hs
  unfold s_iq at st
  split at st
  · exact lv_irem C.1 C.2.1 hd st.1 (hn _ _ _ _ _ _ st.2 h1 h2 K Ls H locs ls hB hS hE hl (List.forall_mem_cons.mpr ⟨trivial, (List.forall_mem_cons.mp (List.forall_mem_cons.mp hs).2).2⟩))
  · exact st.elim
theorem k_ladd (hd : decode cc pc = .ok (.ladd, 1)) : SOK own cc nL rt ini pc (s_l2 (pc + 1) (fun a b => a + b)) := by
  intro p l e R s m args below meth c G K0 d mc ms kk Q C nx hn L S h cu su st h1 h2 K Ls H locs ls hB hS hE hl hs
  unfold s_l2 at st
  split at st
  · exact lv_ladd C.1 C.2.1 hd (hn _ _ _ _ _ _ st h1 h2 K Ls H locs ls hB hS hE hl (List.forall_mem_cons.mpr ⟨trivial, (List.forall_mem_cons.mp (List.forall_mem_cons.mp hs).2).2⟩))
  · exact st.elim
theorem k_lsub (hd : decode cc pc = .ok (.lsub, 1)) : SOK own cc nL rt ini pc (s_l2 (pc + 1) (fun a b => a - b)) := by
  intro p l e R s m args below meth c G K0 d mc ms kk Q C nx hn L S h cu su st h1 h2 K Ls H locs ls hB hS hE hl hs
  unfold s_l2 at st
  split at st
  · exact lv_lsub C.1 C.2.1 hd (hn _ _ _ _ _ _ st h1 h2 K Ls H locs ls hB hS hE hl (List.forall_mem_cons.mpr ⟨trivial, (List.forall_mem_cons.mp (List.forall_mem_cons.mp hs).2).2⟩))
  · exact st.elim
theorem k_lmul (hd : decode cc pc = .ok (.lmul, 1)) : SOK own cc nL rt ini pc (s_l2 (pc + 1) (fun a b => a * b)) := by
  intro p l e R s m args below meth c G K0 d mc ms kk Q C nx hn L S h cu su st h1 h2 K Ls H locs ls hB hS hE hl hs
  unfold s_l2 at st
  split at st
  · exact lv_lmul C.1 C.2.1 hd (hn _ _ _ _ _ _ st h1 h2 K Ls H locs ls hB hS hE hl (List.forall_mem_cons.mpr ⟨trivial, (List.forall_mem_cons.mp (List.forall_mem_cons.mp hs).2).2⟩))
  · exact st.elim
theorem k_ldiv (hd : decode cc pc = .ok (.ldiv, 1)) : SOK own cc nL rt ini pc (s_lq (pc + 1) (fun a b => a / b)) := by
  intro p l e R s m args below meth c G K0 d mc ms kk Q C nx hn L S h cu su st h1 h2 K Ls H locs ls hB hS hE hl hs
  unfold s_lq at st
  split at st
  · exact lv_ldiv C.1 C.2.1 hd st.1 (hn _ _ _ _ _ _ st.2 h1 h2 K Ls H locs ls hB hS hE hl (List.forall_mem_cons.mpr ⟨trivial, (List.forall_mem_cons.mp (List.forall_mem_cons.mp hs).2).2⟩))
  · exact st.elim
theorem k_lrem (hd : decode cc pc = .ok (.lrem, 1)) : SOK own cc nL rt ini pc (s_lq (pc + 1) (fun a b => a - a / b * b)) := by
  intro p l e R s m args below meth c G K0 d mc ms kk Q C nx hn L S h cu su st h1 h2 K Ls H locs ls hB hS hE hl hs
  unfold s_lq at st
  split at st
  · exact lv_lrem C.1 C.2.1 hd st.1 (hn _ _ _ _ _ _ st.2 h1 h2 K Ls H locs ls hB hS hE hl (List.forall_mem_cons.mpr ⟨trivial, (List.forall_mem_cons.mp (List.forall_mem_cons.mp hs).2).2⟩))
  · exact st.elim
theorem k_lcmp (hd : decode cc pc = .ok (.lcmp, 1)) : SOK own cc nL rt ini pc (s_lcmp (pc + 1)) := by
  intro p l e R s m args below meth c G K0 d mc ms kk Q C nx hn L S h cu su st h1 h2 K Ls H locs ls hB hS hE hl hs
  unfold s_lcmp at st
  split at st
  · exact W.lcmp C.1 C.2.1 hd (hn _ _ _ _ _ _ st h1 h2 K Ls H locs ls hB hS hE hl (List.forall_mem_cons.mpr ⟨trivial, (List.forall_mem_cons.mp (List.forall_mem_cons.mp hs).2).2⟩))
  · exact st.elim
theorem k_ineg (hd : decode cc pc = .ok (.ineg, 1)) : SOK own cc nL rt ini pc (s_i1 (pc + 1) (fun a => -a)) := by
  intro p l e R s m args below meth c G K0 d mc ms kk Q C nx hn L S h cu su st h1 h2 K Ls H locs ls hB hS hE hl hs
  unfold s_i1 at st
  split at st
  · exact lv_ineg C.1 C.2.1 hd (hn _ _ _ _ _ _ st h1 h2 K Ls H locs ls hB hS hE hl (List.forall_mem_cons.mpr ⟨trivial, (List.forall_mem_cons.mp hs).2⟩))
  · exact st.elim
theorem k_i2b (hd : decode cc pc = .ok (.i2b, 1)) : SOK own cc nL rt ini pc (s_i1 (pc + 1) (fun a => a.toInt8.toInt32)) := by
  intro p l e R s m args below meth c G K0 d mc ms kk Q C nx hn L S h cu su st h1 h2 K Ls H locs ls hB hS hE hl hs
  unfold s_i1 at st
  split at st
  · exact lv_i2b C.1 C.2.1 hd rfl (hn _ _ _ _ _ _ st h1 h2 K Ls H locs ls hB hS hE hl (List.forall_mem_cons.mpr ⟨trivial, (List.forall_mem_cons.mp hs).2⟩))
  · exact st.elim
theorem k_i2s (hd : decode cc pc = .ok (.i2s, 1)) : SOK own cc nL rt ini pc (s_i1 (pc + 1) (fun a => a.toInt16.toInt32)) := by
  intro p l e R s m args below meth c G K0 d mc ms kk Q C nx hn L S h cu su st h1 h2 K Ls H locs ls hB hS hE hl hs
  unfold s_i1 at st
  split at st
  · exact lv_i2s C.1 C.2.1 hd rfl (hn _ _ _ _ _ _ st h1 h2 K Ls H locs ls hB hS hE hl (List.forall_mem_cons.mpr ⟨trivial, (List.forall_mem_cons.mp hs).2⟩))
  · exact st.elim
theorem k_i2l (hd : decode cc pc = .ok (.i2l, 1)) : SOK own cc nL rt ini pc (s_i2l (pc + 1)) := by
  intro p l e R s m args below meth c G K0 d mc ms kk Q C nx hn L S h cu su st h1 h2 K Ls H locs ls hB hS hE hl hs
  unfold s_i2l at st
  split at st
  · exact lv_i2l C.1 C.2.1 hd rfl (hn _ _ _ _ _ _ st h1 h2 K Ls H locs ls hB hS hE hl (List.forall_mem_cons.mpr ⟨trivial, (List.forall_mem_cons.mp hs).2⟩))
  · exact st.elim
theorem k_l2i (hd : decode cc pc = .ok (.l2i, 1)) : SOK own cc nL rt ini pc (s_l2i (pc + 1)) := by
  intro p l e R s m args below meth c G K0 d mc ms kk Q C nx hn L S h cu su st h1 h2 K Ls H locs ls hB hS hE hl hs
  unfold s_l2i at st
  split at st
  · exact lv_l2i C.1 C.2.1 hd rfl (hn _ _ _ _ _ _ st h1 h2 K Ls H locs ls hB hS hE hl (List.forall_mem_cons.mpr ⟨trivial, (List.forall_mem_cons.mp hs).2⟩))
  · exact st.elim
theorem k_dup (hd : decode cc pc = .ok (.dup, 1)) : SOK own cc nL rt ini pc (s_dup (pc + 1)) := by
  intro p l e R s m args below meth c G K0 d mc ms kk Q C nx hn L S h cu su st h1 h2 K Ls H locs ls hB hS hE hl hs
  unfold s_dup at st
  split at st
  · exact lv_dup C.1 C.2.1 hd rfl (hn _ _ _ _ _ _ st h1 h2 K Ls H locs ls hB hS hE hl (List.forall_mem_cons.mpr ⟨trivial, hs⟩))
  · next q S' => exact lv_dup C.1 C.2.1 hd (tv_cat1 (v := .inr (.inr q)) (fun l h => by cases h)) (hn _ _ _ _ _ _ st h1 h2 K Ls H locs ls hB hS hE hl (List.forall_mem_cons.mpr ⟨(List.forall_mem_cons.mp hs).1, hs⟩))
  · exact st.elim
theorem k_dup2 (hd : decode cc pc = .ok (.dup2, 1)) : SOK own cc nL rt ini pc (s_dup2 (pc + 1)) := by
  intro p l e R s m args below meth c G K0 d mc ms kk Q C nx hn L S h cu su st h1 h2 K Ls H locs ls hB hS hE hl hs
  unfold s_dup2 at st
  split at st
  · next a q S' => exact lv_dup2_11 C.1 C.2.1 hd rfl (tv_cat1 (v := .inr (.inr q)) (fun l h => by cases h)) (hn _ _ _ _ _ _ st h1 h2 K Ls H locs ls hB hS hE hl (List.forall_mem_cons.mpr ⟨trivial, List.forall_mem_cons.mpr ⟨(List.forall_mem_cons.mp (List.forall_mem_cons.mp hs).2).1, hs⟩⟩))
  · exact st.elim
theorem k_pop (hd : decode cc pc = .ok (.pop, 1)) : SOK own cc nL rt ini pc (s_pop (pc + 1)) := by
  intro p l e R s m args below meth c G K0 d mc ms kk Q C nx hn L S h cu su st h1 h2 K Ls H locs ls hB hS hE hl hs
  unfold s_pop at st
  split at st
  · exact lv_pop C.1 C.2.1 hd rfl (hn _ _ _ _ _ _ st h1 h2 K Ls H locs ls hB hS hE hl (List.forall_mem_cons.mp hs).2)
  · next q S' => exact lv_pop C.1 C.2.1 hd (tv_cat1 (v := .inr (.inr q)) (fun l h => by cases h)) (hn _ _ _ _ _ _ st h1 h2 K Ls H locs ls hB hS hE hl (List.forall_mem_cons.mp hs).2)
  · exact st.elim
theorem k_if_eq {off : Int} {tgt : Nat} (hd : decode cc pc = .ok (.ifCond .eq off, 3)) (ht : (pc : Int) + off = (tgt : Int)) : SOK own cc nL rt ini pc (s_if (pc + 3) tgt (fun a => a = 0)) := by
  intro p l e R s m args below meth c G K0 d mc ms kk Q C nx hn L S h cu su st h1 h2 K Ls H locs ls hB hS hE hl hs
  unfold s_if at st
  split at st
  · exact lv_if_eq C.1 C.2.1 hd ht (fun q => hn _ _ _ _ _ _ (st.1 q) h1 h2 K Ls H locs ls hB hS hE hl (List.forall_mem_cons.mp hs).2) (fun q => hn _ _ _ _ _ _ (st.2 q) h1 h2 K Ls H locs ls hB hS hE hl (List.forall_mem_cons.mp hs).2)
  · exact st.elim
theorem k_cmp_eq {off : Int} {tgt : Nat} (hd : decode cc pc = .ok (.if_icmp .eq off, 3)) (ht : (pc : Int) + off = (tgt : Int)) : SOK own cc nL rt ini pc (s_cmp (pc + 3) tgt (fun a b => a = b)) := by
  intro p l e R s m args below meth c G K0 d mc ms kk Q C nx hn L S h cu su st h1 h2 K Ls H locs ls hB hS hE hl hs
  unfold s_cmp at st
  split at st
  · exact lv_icmp_eq C.1 C.2.1 hd ht (fun q => hn _ _ _ _ _ _ (st.1 q) h1 h2 K Ls H locs ls hB hS hE hl (List.forall_mem_cons.mp (List.forall_mem_cons.mp hs).2).2) (fun q => hn _ _ _ _ _ _ (st.2 q) h1 h2 K Ls H locs ls hB hS hE hl (List.forall_mem_cons.mp (List.forall_mem_cons.mp hs).2).2)
  · exact st.elim
theorem k_if_ne {off : Int} {tgt : Nat} (hd : decode cc pc = .ok (.ifCond .ne off, 3)) (ht : (pc : Int) + off = (tgt : Int)) : SOK own cc nL rt ini pc (s_if tgt (pc + 3) (fun a => a = 0)) := by
  intro p l e R s m args below meth c G K0 d mc ms kk Q C nx hn L S h cu su st h1 h2 K Ls H locs ls hB hS hE hl hs
  unfold s_if at st
  split at st
  · exact lv_if_ne C.1 C.2.1 hd ht (fun q => hn _ _ _ _ _ _ (st.2 q) h1 h2 K Ls H locs ls hB hS hE hl (List.forall_mem_cons.mp hs).2) (fun q => hn _ _ _ _ _ _ (st.1 q) h1 h2 K Ls H locs ls hB hS hE hl (List.forall_mem_cons.mp hs).2)
  · exact st.elim
theorem k_cmp_ne {off : Int} {tgt : Nat} (hd : decode cc pc = .ok (.if_icmp .ne off, 3)) (ht : (pc : Int) + off = (tgt : Int)) : SOK own cc nL rt ini pc (s_cmp tgt (pc + 3) (fun a b => a = b)) := by
  intro p l e R s m args below meth c G K0 d mc ms kk Q C nx hn L S h cu su st h1 h2 K Ls H locs ls hB hS hE hl hs
  unfold s_cmp at st
  split at st
  · exact lv_icmp_ne C.1 C.2.1 hd ht (fun q => hn _ _ _ _ _ _ (st.2 q) h1 h2 K Ls H locs ls hB hS hE hl (List.forall_mem_cons.mp (List.forall_mem_cons.mp hs).2).2) (fun q => hn _ _ _ _ _ _ (st.1 q) h1 h2 K Ls H locs ls hB hS hE hl (List.forall_mem_cons.mp (List.forall_mem_cons.mp hs).2).2)
  · exact st.elim
theorem k_if_lt {off : Int} {tgt : Nat} (hd : decode cc pc = .ok (.ifCond .lt off, 3)) (ht : (pc : Int) + off = (tgt : Int)) : SOK own cc nL rt ini pc (s_if (pc + 3) tgt (fun a => a < 0)) := by
  intro p l e R s m args below meth c G K0 d mc ms kk Q C nx hn L S h cu su st h1 h2 K Ls H locs ls hB hS hE hl hs
  unfold s_if at st
  split at st
  · exact lv_if_lt C.1 C.2.1 hd ht (fun q => hn _ _ _ _ _ _ (st.1 q) h1 h2 K Ls H locs ls hB hS hE hl (List.forall_mem_cons.mp hs).2) (fun q => hn _ _ _ _ _ _ (st.2 q) h1 h2 K Ls H locs ls hB hS hE hl (List.forall_mem_cons.mp hs).2)
  · exact st.elim
theorem k_cmp_lt {off : Int} {tgt : Nat} (hd : decode cc pc = .ok (.if_icmp .lt off, 3)) (ht : (pc : Int) + off = (tgt : Int)) : SOK own cc nL rt ini pc (s_cmp (pc + 3) tgt (fun a b => a < b)) := by
  intro p l e R s m args below meth c G K0 d mc ms kk Q C nx hn L S h cu su st h1 h2 K Ls H locs ls hB hS hE hl hs
  unfold s_cmp at st
  split at st
  · exact lv_icmp_lt C.1 C.2.1 hd ht (fun q => hn _ _ _ _ _ _ (st.1 q) h1 h2 K Ls H locs ls hB hS hE hl (List.forall_mem_cons.mp (List.forall_mem_cons.mp hs).2).2) (fun q => hn _ _ _ _ _ _ (st.2 q) h1 h2 K Ls H locs ls hB hS hE hl (List.forall_mem_cons.mp (List.forall_mem_cons.mp hs).2).2)
  · exact st.elim
theorem k_if_ge {off : Int} {tgt : Nat} (hd : decode cc pc = .ok (.ifCond .ge off, 3)) (ht : (pc : Int) + off = (tgt : Int)) : SOK own cc nL rt ini pc (s_if (pc + 3) tgt (fun a => 0 ≤ a)) := by
  intro p l e R s m args below meth c G K0 d mc ms kk Q C nx hn L S h cu su st h1 h2 K Ls H locs ls hB hS hE hl hs
  unfold s_if at st
  split at st
  · exact lv_if_ge C.1 C.2.1 hd ht (fun q => hn _ _ _ _ _ _ (st.1 q) h1 h2 K Ls H locs ls hB hS hE hl (List.forall_mem_cons.mp hs).2) (fun q => hn _ _ _ _ _ _ (st.2 q) h1 h2 K Ls H locs ls hB hS hE hl (List.forall_mem_cons.mp hs).2)
  · exact st.elim
theorem k_cmp_ge {off : Int} {tgt : Nat} (hd : decode cc pc = .ok (.if_icmp .ge off, 3)) (ht : (pc : Int) + off = (tgt : Int)) : SOK own cc nL rt ini pc (s_cmp (pc + 3) tgt (fun a b => b ≤ a)) := by
  intro p l e R s m args below meth c G K0 d mc ms kk Q C nx hn L S h cu su st h1 h2 K Ls H locs ls hB hS hE hl hs
  unfold s_cmp at st
  split at st
  · exact lv_icmp_ge C.1 C.2.1 hd ht (fun q => hn _ _ _ _ _ _ (st.1 q) h1 h2 K Ls H locs ls hB hS hE hl (List.forall_mem_cons.mp (List.forall_mem_cons.mp hs).2).2) (fun q => hn _ _ _ _ _ _ (st.2 q) h1 h2 K Ls H locs ls hB hS hE hl (List.forall_mem_cons.mp (List.forall_mem_cons.mp hs).2).2)
  · exact st.elim
theorem k_if_gt {off : Int} {tgt : Nat} (hd : decode cc pc = .ok (.ifCond .gt off, 3)) (ht : (pc : Int) + off = (tgt : Int)) : SOK own cc nL rt ini pc (s_if (pc + 3) tgt (fun a => 0 < a)) := by
  intro p l e R s m args below meth c G K0 d mc ms kk Q C nx hn L S h cu su st h1 h2 K Ls H locs ls hB hS hE hl hs
  unfold s_if at st
  split at st
  · exact lv_if_gt C.1 C.2.1 hd ht (fun q => hn _ _ _ _ _ _ (st.1 q) h1 h2 K Ls H locs ls hB hS hE hl (List.forall_mem_cons.mp hs).2) (fun q => hn _ _ _ _ _ _ (st.2 q) h1 h2 K Ls H locs ls hB hS hE hl (List.forall_mem_cons.mp hs).2)
  · exact st.elim
theorem k_cmp_gt {off : Int} {tgt : Nat} (hd : decode cc pc = .ok (.if_icmp .gt off, 3)) (ht : (pc : Int) + off = (tgt : Int)) : SOK own cc nL rt ini pc (s_cmp (pc + 3) tgt (fun a b => b < a)) := by
  intro p l e R s m args below meth c G K0 d mc ms kk Q C nx hn L S h cu su st h1 h2 K Ls H locs ls hB hS hE hl hs
  unfold s_cmp at st
  split at st
  · exact lv_icmp_gt C.1 C.2.1 hd ht (fun q => hn _ _ _ _ _ _ (st.1 q) h1 h2 K Ls H locs ls hB hS hE hl (List.forall_mem_cons.mp (List.forall_mem_cons.mp hs).2).2) (fun q => hn _ _ _ _ _ _ (st.2 q) h1 h2 K Ls H locs ls hB hS hE hl (List.forall_mem_cons.mp (List.forall_mem_cons.mp hs).2).2)
  · exact st.elim
theorem k_if_le {off : Int} {tgt : Nat} (hd : decode cc pc = .ok (.ifCond .le off, 3)) (ht : (pc : Int) + off = (tgt : Int)) : SOK own cc nL rt ini pc (s_if (pc + 3) tgt (fun a => a ≤ 0)) := by
  intro p l e R s m args below meth c G K0 d mc ms kk Q C nx hn L S h cu su st h1 h2 K Ls H locs ls hB hS hE hl hs
  unfold s_if at st
  split at st
  · exact lv_if_le C.1 C.2.1 hd ht (fun q => hn _ _ _ _ _ _ (st.1 q) h1 h2 K Ls H locs ls hB hS hE hl (List.forall_mem_cons.mp hs).2) (fun q => hn _ _ _ _ _ _ (st.2 q) h1 h2 K Ls H locs ls hB hS hE hl (List.forall_mem_cons.mp hs).2)
  · exact st.elim
theorem k_cmp_le {off : Int} {tgt : Nat} (hd : decode cc pc = .ok (.if_icmp .le off, 3)) (ht : (pc : Int) + off = (tgt : Int)) : SOK own cc nL rt ini pc (s_cmp (pc + 3) tgt (fun a b => a ≤ b)) := by
  intro p l e R s m args below meth c G K0 d mc ms kk Q C nx hn L S h cu su st h1 h2 K Ls H locs ls hB hS hE hl hs
  unfold s_cmp at st
  split at st
  · exact lv_icmp_le C.1 C.2.1 hd ht (fun q => hn _ _ _ _ _ _ (st.1 q) h1 h2 K Ls H locs ls hB hS hE hl (List.forall_mem_cons.mp (List.forall_mem_cons.mp hs).2).2) (fun q => hn _ _ _ _ _ _ (st.2 q) h1 h2 K Ls H locs ls hB hS hE hl (List.forall_mem_cons.mp (List.forall_mem_cons.mp hs).2).2)
  · exact st.elim
theorem k_ifnull {off : Int} {tgt : Nat} (hd : decode cc pc = .ok (.ifnull off, 3)) (ht : (pc : Int) + off = (tgt : Int)) : SOK own cc nL rt ini pc (s_ifn (pc + 3) tgt) := by
  intro p l e R s m args below meth c G K0 d mc ms kk Q C nx hn L S h cu su st h1 h2 K Ls H locs ls hB hS hE hl hs
  unfold s_ifn at st
  split at st
  · next q S' =>
    obtain ⟨t, x⟩ := q
    have hs2 := (List.forall_mem_cons.mp hs).2
    cases x with
    | zero => exact lv_ifnullN C.1 C.2.1 hd ht (hn _ _ _ _ _ _ (st.1 rfl) h1 h2 K Ls H locs ls hB hS hE hl hs2)
    | succ x => exact lv_ifnull C.1 C.2.1 hd (hn _ _ _ _ _ _ (st.2 (Nat.succ_ne_zero x)) h1 h2 K Ls H locs ls hB hS hE hl hs2)
  · exact st.elim
theorem k_ifnonnull {off : Int} {tgt : Nat} (hd : decode cc pc = .ok (.ifnonnull off, 3)) (ht : (pc : Int) + off = (tgt : Int)) : SOK own cc nL rt ini pc (s_ifnn (pc + 3) tgt) := by
  intro p l e R s m args below meth c G K0 d mc ms kk Q C nx hn L S h cu su st h1 h2 K Ls H locs ls hB hS hE hl hs
  unfold s_ifnn at st
  split at st
  · next q S' =>
    obtain ⟨t, x⟩ := q
    have hs2 := (List.forall_mem_cons.mp hs).2
    cases x with
    | zero => exact lv_ifnonnullN C.1 C.2.1 hd (hn _ _ _ _ _ _ (st.1 rfl) h1 h2 K Ls H locs ls hB hS hE hl hs2)
    | succ x => exact lv_ifnonnull C.1 C.2.1 hd ht (hn _ _ _ _ _ _ (st.2 (Nat.succ_ne_zero x)) h1 h2 K Ls H locs ls hB hS hE hl hs2)
  · exact st.elim
theorem k_goto {off : Int} {tgt : Nat} (hd : decode cc pc = .ok (.goto off, 3)) (ht : (pc : Int) + off = (tgt : Int)) : SOK own cc nL rt ini pc (s_goto tgt) := by
  intro p l e R s m args below meth c G K0 d mc ms kk Q C nx hn L S h cu su st h1 h2 K Ls H locs ls hB hS hE hl hs
  exact lv_goto C.1 C.2.1 hd ht (hn _ _ _ _ _ _ st h1 h2 K Ls H locs ls hB hS hE hl hs)
theorem swc_ts {x : Int32} {k : Nat → Prop} {dd : Nat} : ∀ (cs : List (Int32 × Nat)), swc x k dd cs → (∃ (q t : Nat), cs[q]? = some (x, t) ∧ k t) ∨ ((∀ (q t : Nat), cs[q]? ≠ some (x, t)) ∧ k dd)
  | [], h => Or.inr ⟨fun q t => by simp, h⟩
  | (v, t) :: r, h => by
    by_cases hx : x = v
    · left
      subst hx
      exact ⟨0, t, rfl, h.1 rfl⟩
    · rcases swc_ts r (h.2 hx) with ⟨q, u, e1, e2⟩ | ⟨e1, e2⟩
      · left
        exact ⟨q + 1, u, e1, e2⟩
      · right
        refine ⟨fun j w => ?_, e2⟩
        cases j with
        | zero => intro z; simp at z; exact hx z.1.symm
        | succ j => exact e1 j w
/-- tables: the cases are lo, lo + 1 .. with their targets -/
theorem k_tsw {dflt lo hi : Int} {offs : Array Int} {len : Nat} {cs : List (Int32 × Nat)} {dd : Nat} (hd : decode cc pc = .ok (.tableswitch dflt lo hi offs, len)) (h1 : ((List.range cs.length).all (fun q => match cs[q]? with | some (v, t) => decide (v.toInt = lo + q) && decide (offs[q]? = some ((t : Int) - (pc : Int))) | none => false)) = true) (h2 : (cs.length : Int) = hi - lo + 1) (h3 : (pc : Int) + dflt = (dd : Int)) (h4 : (0 : Int) ≤ hi - lo) : SOK own cc nL rt ini pc (s_sw cs dd) := by
  intro p l e R s m args below meth c G K0 d mc ms kk Q C nx hn L S h cu su st g1 g2 K Ls H locs ls hB hS hE hl hs
  unfold s_sw at st
  split at st
  · next a S' =>
    have hs2 := (List.forall_mem_cons.mp hs).2
    have key : ∀ q : Nat, q < cs.length → ∃ v t, cs[q]? = some (v, t) ∧ v.toInt = lo + q ∧ offs[q]? = some ((t : Int) - (pc : Int)) := by
      intro q hq
      have z := List.all_eq_true.mp h1 q (List.mem_range.mpr hq)
      cases hc : cs[q]? with
      | none => rw [hc] at z; cases z
      | some w =>
        obtain ⟨v, t⟩ := w
        rw [hc] at z
        simp only [Bool.and_eq_true, decide_eq_true_eq] at z
        exact ⟨v, t, rfl, z.1, z.2⟩
    rcases swc_ts cs st with ⟨q, t, e1, e2⟩ | ⟨e1, e2⟩
    · have hq : q < cs.length := (List.getElem?_eq_some_iff.mp e1).1
      obtain ⟨v, t', f1, f2, f3⟩ := key q hq
      rw [e1] at f1
      cases f1
      refine lv_tableIn C.1 C.2.1 hd (by omega) (by omega) (off := (t : Int) - (pc : Int)) ?_ (by omega) (hn _ _ _ _ _ _ e2 g1 g2 K Ls H locs ls hB hS hE hl hs2)
      rw [f2, show (lo + (q : Int) - lo).toNat = q by omega]
      exact f3
    · refine lv_tableOut C.1 C.2.1 hd ?_ h3 (hn _ _ _ _ _ _ e2 g1 g2 K Ls H locs ls hB hS hE hl hs2)
      by_cases b1 : a.toInt < lo
      · exact Or.inl b1
      · by_cases b2 : hi < a.toInt
        · exact Or.inr b2
        · exfalso
          obtain ⟨v, t, f1, f2, f3⟩ := key (a.toInt - lo).toNat (by omega)
          refine e1 (a.toInt - lo).toNat t ?_
          rw [f1, show v = a from Int32.toInt_inj.mp (by rw [f2]; omega)]
  · exact st.elim
theorem lsw_off {x : Int32} {k : Nat → Prop} {dd pc : Nat} {dflt : Int} : ∀ (cs : List (Int32 × Nat)) (ps : List (Int × Int)), cs.map (fun w => (w.1.toInt, (w.2 : Int) - (pc : Int))) = ps → (dd : Int) = (pc : Int) + dflt → swc x k dd cs → ∃ t : Nat, k t ∧ (pc : Int) + Op.lookupswitch.offset ps dflt x.toInt = (t : Int)
  | [], ps, e, hdd, h => ⟨dd, h, by subst e; rw [hdd]; rfl⟩
  | (v, t) :: r, ps, e, hdd, h => by
    subst e
    by_cases hx : x = v
    · refine ⟨t, h.1 hx, ?_⟩
      rw [List.map_cons, Op.lookupswitch.offset_cons, if_pos (by rw [hx])]
      show (pc : Int) + ((t : Int) - (pc : Int)) = (t : Int)
      omega
    · obtain ⟨u, e1, e2⟩ := lsw_off r _ rfl hdd (h.2 hx)
      refine ⟨u, e1, ?_⟩
      rw [List.map_cons, lv_osw hx rfl]
      exact e2
theorem k_lsw {dflt : Int} {ps : Array (Int × Int)} {len : Nat} {cs : List (Int32 × Nat)} {dd : Nat} (hd : decode cc pc = .ok (.lookupswitch dflt ps, len)) (h1 : (cs.map (fun w => (w.1.toInt, (w.2 : Int) - (pc : Int))) = ps.toList ∧ (dd : Int) = (pc : Int) + dflt)) (h2 : (ps.toList.zip (ps.toList.drop 1)).all (fun (a, next) => a.1 < next.1) = true) : SOK own cc nL rt ini pc (s_sw cs dd) := by
  intro p l e R s m args below meth c G K0 d mc ms kk Q C nx hn L S h cu su st g1 g2 K Ls H locs ls hB hS hE hl hs
  unfold s_sw at st
  split at st
  · next a S' =>
    have hs2 := (List.forall_mem_cons.mp hs).2
    obtain ⟨t, e1, e2⟩ := lsw_off cs _ h1.1 h1.2 st
    exact lv_lookup C.1 C.2.1 hd h2 rfl e2 (hn _ _ _ _ _ _ e1 g1 g2 K Ls H locs ls hB hS hE hl hs2)
  · exact st.elim
theorem k_ret (hd : decode cc pc = .ok (.ireturn, 1)) (hr : rt = some .int := by rfl) : SOK own cc nL rt ini pc s_ret := by
  intro p l e R s m args below meth c G K0 d mc ms kk Q C nx hn L S h cu su st h1 h2 K Ls H locs ls hB hS hE hl hs
  unfold s_ret at st
  split at st
  · next v => exact C.2.2.2.2.2.2.2 (some (.inl v)) h cu su st h1 h2 (Or.inl hr) K Ls H locs ls pc hB hS hE (fun w hw => by cases hw; trivial) hd
  · exact st.elim
theorem k_zret (hd : decode cc pc = .ok (.ireturn, 1)) (hr : rt = some .boolean := by rfl) : SOK own cc nL rt ini pc s_zret := by
  intro p l e R s m args below meth c G K0 d mc ms kk Q C nx hn L S h cu su st h1 h2 K Ls H locs ls hB hS hE hl hs
  unfold s_zret at st
  split at st
  · next v => exact C.2.2.2.2.2.2.2 (some (.inl v)) h cu su st.2 h1 h2 (Or.inr ⟨hr, st.1⟩) K Ls H locs ls pc hB hS hE (fun w hw => by cases hw; trivial) hd
  · exact st.elim
theorem k_lret (hd : decode cc pc = .ok (.lreturn, 1)) (hr : rt = some .long := by rfl) : SOK own cc nL rt ini pc s_lret := by
  intro p l e R s m args below meth c G K0 d mc ms kk Q C nx hn L S h cu su st h1 h2 K Ls H locs ls hB hS hE hl hs
  unfold s_lret at st
  split at st
  · next v => exact C.2.2.2.2.2.2.2 (some (.inr (.inl v))) h cu su st h1 h2 hr K Ls H locs ls pc hB hS hE (fun w hw => by cases hw; trivial) hd
  · exact st.elim
theorem k_vret (hd : decode cc pc = .ok (.return_, 1)) (hr : rt = none := by rfl) : SOK own cc nL rt ini pc s_vret := by
  intro p l e R s m args below meth c G K0 d mc ms kk Q C nx hn L S h cu su st h1 h2 K Ls H locs ls hB hS hE hl hs
  unfold s_vret at st
  split at st
  · exact C.2.2.2.2.2.2.2 none h cu su st h1 h2 hr K Ls H locs ls pc hB hS hE (fun w hw => by cases hw) hd
  · exact st.elim
end K1
