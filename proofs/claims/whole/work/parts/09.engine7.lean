/-! ===== ENGINE: calls, and a method out of its table ===== -/
theorem Sx.moved {G : Gh} {K : Nat → Nat} {h : hp} {u U : State} {H : Heap} (hvm : u.vm.Alike U.vm) (hX : Sx G K h u H) : Sx G K h U H := by
  obtain ⟨a, ⟨y1, a1, a2, a3⟩, ⟨y2, b1, b2, b3⟩, ⟨y3, c1, c2, c3⟩⟩ := hX
  exact ⟨fun b hb => va_T.moved hvm (a b hb), ⟨y1, a1, a2, va_Z.moved hvm a3⟩, ⟨y2, b1, b2, va_Z.moved hvm b3⟩, ⟨y3, c1, c2, va_Z.moved hvm c3⟩⟩
theorem Sx.kept {G : Gh} {K : Nat → Nat} {h : hp} {U : State} {H H1 : Heap} (hq : ∀ a : Nat, a < H.size → ¬ gA G a → H1[a]? = H[a]?) (hX : Sx G K h U H) : Sx G K h U H1 := by
  obtain ⟨a, ⟨y1, a1, a2, a3⟩, ⟨y2, b1, b2, b3⟩, ⟨y3, c1, c2, c3⟩⟩ := hX
  exact ⟨fun b hb => va_T.kept (a b hb) hq, ⟨y1, a1, a2, va_Z.kept a3 hq⟩, ⟨y2, b1, b2, va_Z.kept b3 hq⟩, ⟨y3, c1, c2, va_Z.kept c3 hq⟩⟩
theorem HB.warm {G : Gh} {K : Nat → Nat} {Ls : List Nat} {h : hp} {s U : State} {H H0 : Heap} (hW : s.WarmedH U.vm) (hB : HB G K Ls h s H H0) : HB G K Ls h U H H0 :=
  ⟨va_K.moved hW.alike hB.1, hB.2.1, hB.2.2.1, hB.2.2.2.1, hB.2.2.2.2.1, hB.2.2.2.2.2.1, hB.2.2.2.2.2.2.1.moved hW.alike, hB.2.2.2.2.2.2.2.warm hW⟩
theorem HB.here {G : Gh} {K : Nat → Nat} {Ls : List Nat} {h : hp} {U : State} {H H0 : Heap} {locs : List Loc} (hS : va_S (gA G) H0 H locs) (hB : HB G K Ls h U H H0) : HB G K Ls h U H H :=
  ⟨hB.1, hB.2.1, hB.2.2.1, ⟨hB.2.2.2.1.1, Nat.le_trans hB.2.2.2.1.2.1 hS.1, hB.2.2.2.1.2.2⟩, hB.2.2.2.2.1, hB.2.2.2.2.2.1, hB.2.2.2.2.2.2.1.kept hS.2.1, hB.2.2.2.2.2.2.2⟩
theorem HB.blind {G : Gh} {K : Nat → Nat} {Ls : List Nat} {h : hp} {as : List Value} : FrameBlind (va_Pc as (fun U => HB G K Ls h U U.heap U.heap)) := by
  intro a U g mk q
  obtain ⟨q0, qB⟩ := q
  refine ⟨q0, va_K.moved (u := U) (U := U.calling g mk a) (Vm.Alike.refl U.vm) qB.1, qB.2.1, qB.2.2.1, qB.2.2.2.1, qB.2.2.2.2.1, qB.2.2.2.2.2.1, Sx.moved (u := U) (U := U.calling g mk a) (Vm.Alike.refl U.vm) qB.2.2.2.2.2.2.1, ?_⟩
  obtain ⟨n1, n2, n3, n4⟩ := qB.2.2.2.2.2.2.2
  exact ⟨va_AO.moved (u := U) (U := U.calling g mk a) (Vm.Alike.refl U.vm) n1, va_AO.moved (u := U) (U := U.calling g mk a) (Vm.Alike.refl U.vm) n2, va_AO.moved (u := U) (U := U.calling g mk a) (Vm.Alike.refl U.vm) n3, fun q hq => va_Nw.same rfl (u := U) rfl (n4 q hq)⟩
theorem call_go {p : Program} {l : Launch} {e : Env} {R : Room} {s : State} {m : MethodId} {args : Array Value} {below : List Frame} {meth : Method} {c : Code} {H : Heap} {locs : List Loc} {cells slots mc' ms' pc : Nat} {ls : Array Slot} {st0 rest : List Value} {G : Gh} {K : Nat → Nat} {kk : Rt} {a : Array Value} {Q : State → Prop}
    (hr : va_Run p l e R s m args below meth c H locs cells slots mc' ms' (F0 m pc ls st0) rest (QcK G K kk a) (gA G)) (hS : va_S (gA G) s.heap H locs) (hbase : G.2.2 ≤ s.heap.size) (hN : Nw5 s)
    (go : ∀ (v : Option pv) (K' : Nat → Nat) (Ls' : List Nat) (h' : hp) (H1 : Heap) (locs1 : List Loc), kk v h' → HB G K' Ls' h' s H1 s.heap → va_S (gA G) s.heap H1 locs1 → (∀ w, v = some w → okv K' w) → Ext K K' → W p l e R s m args below meth c H1 locs1 (cells + mc') (slots + ms') Q (F0 m (pc + 3) ls ((v.map tv).toList ++ rest))) : W p l e R s m args below meth c H locs cells slots Q (F0 m pc ls st0) := by
  intro T hT X
  obtain ⟨v, st₀, t, T', L, h0, X', hL, e1, e2, hq, st⟩ := hr T hT X
  obtain ⟨⟨v', K', Ls', h', hv, hk, hB, hok, hE⟩, hz, hkeep⟩ := hq
  have hv : v = v'.map tv := by cases hv; rfl
  subst hv
  rw [h0] at hz hkeep
  have hvm : s.vm.Alike t.vm := by rw [← e2]; exact X'.warmed.alike
  have hS1 : va_S (gA G) s.heap t.heap (locs ++ L) := ⟨Nat.le_trans hS.1 hz, fun q h1 h2 => by rw [hkeep q (Nat.lt_of_lt_of_le h1 hS.1) h2]; exact hS.2.1 q h1 h2, fun q hq => by
      rcases List.mem_append.mp hq with h | h
      · exact hS.2.2 q h
      · exact hL q h⟩
  have hB1 : HB G K' Ls' h' s t.heap s.heap := by
    refine ⟨va_K.moved hvm.symm hB.1, hB.2.1, hB.2.2.1, ⟨hB.2.2.2.1.1, hbase, hB.2.2.2.1.2.2⟩, hB.2.2.2.2.1, hB.2.2.2.2.2.1, (hB.2.2.2.2.2.2.1.moved hvm.symm).kept (fun q h1 h2 => ?_), hN⟩
    have : q < s.heap.size := by
      have : ¬ G.2.2 ≤ q := h2
      omega
    exact (hS1.2.1 q this h2).symm
  obtain ⟨t2, a1, b1⟩ := go v' K' Ls' h' t.heap (locs ++ L) hk hB1 hS1 hok hE T' e1 X'
  exact ⟨t2, st t2 a1, b1⟩
theorem cgo_spec {d mc ms cu su : Nat} {y : MI} {mc' ms' : Nat} {as : List pv} {h : hp} {K : Nat → Nat → Rt} (g : cgo CL d mc ms cu su y mc' ms' as h K) (h1 : cu ≤ mc) (h2 : su ≤ ms) : ∃ d', d = d' + 1 ∧ cu + mc' ≤ mc ∧ su + ms' ≤ ms ∧ CL d' y mc' ms' as h (K (cu + mc') (su + ms')) := by
  unfold cgo at g
  cases d with
  | zero => exact (g : False).elim
  | succ d =>
    cases mc' with
    | zero =>
      cases ms' with
      | zero => exact ⟨d, rfl, h1, h2, g⟩
      | succ q => exact (g : False).elim
    | succ q => exact ⟨d, rfl, g.1.1, g.1.2, g.2⟩
/-- what the tables say of a method that is called with n arguments -/
def MOK (y : MI) (n : Nat) : Prop := Cond.code y.1 y.2.1 y.2.2.1 y.2.2.2 ∈ lw_g ∧ Cond.initialized y.1.cls ∈ lw_g ∧ (y.1.cls ≠ "java/lang/invoke/MethodHandle" ∧ y.1.cls ≠ "java/lang/invoke/VarHandle" ∧ (parseMethodDescriptor y.1.desc).map (fun d => d.parameters.length) = some n) ∧ y.2.2.1 ≤ 45
def MOKs (y : MI) (n : Nat) : Prop := MOK y n ∧ Cond.static y.1 ∈ lw_g
def MOKv (y : MI) (n : Nat) : Prop := MOK y n ∧ Cond.instanceMethod y.1 ∈ lw_g ∧ Cond.selects y.1.cls y.1 y.1 ∈ lw_g
def MOKi (y : MI) (n : Nat) : Prop := MOK y n ∧ Cond.instanceMethod y.1 ∈ lw_g ∧ y.1.name = "<init>" ∧ y.2.2.2 = none
theorem mws_good {y : MI} (h : Cond.code y.1 y.2.1 y.2.2.1 y.2.2.2 ∈ lw_g) : GoodIn lw_g (mws y) := fun w hw => by
  rcases List.mem_cons.mp hw with rfl | hw
  · exact g_good _ h
  · exact g_good w hw
theorem take_rev (S : List pv) (k : Nat) : S.map tv = ((S.take k).reverse.map tv).reverse ++ (S.drop k).map tv := by
  rw [← List.map_reverse, List.reverse_reverse, ← List.map_append, List.take_append_drop]
section K6
variable {own : String} {cc : ByteArray} {nL : Nat} {rt : Option FieldType} {ini : Bool} {pc : Nat}
theorem k_cS {x k mc' ms' : Nat} {y : MI} (hd : decode cc pc = .ok (.invokestatic x, 3)) (hw : Cond.methodLink own x y.1 ∈ lw_g) (ok : MOKs y k) : SOK own cc nL rt ini pc (s_cS (pc + 3) y k mc' ms') := by
  intro p l e R s m args below meth c G K0 d mc ms kk Q C nx hn L S h cu su st h1 h2 K Ls H locs ls hB hS hE hl hs
  unfold s_cS at st
  cases hb : Nat.ble (sw (S.drop k)) 8 && Nat.beq (S.take k).length k with
  | false => rw [hb] at st; exact st.elim
  | true =>
    rw [hb] at st
    obtain ⟨b1, b2⟩ := Bool.and_eq_true_iff.mp hb
    have b1 := Nat.le_of_ble_eq_true b1
    have b2 := Nat.eq_of_beq_eq_true b2
    rw [cond_true] at st
    obtain ⟨d', hd', f1, f2, hM⟩ := cgo_spec st h1 h2
    have r := C.2.2.2.2.2.1
    subst hd'
    have hts := C.2.2.2.2.1
    refine call_go (va_runS (cc := cc) (nL := nL) (own := own) (Ts := lw_g) (index := x) (n := k) (bytes := y.2.1) (maxL := y.2.2.1) (ret := y.2.2.2) (As := (S.take k).reverse.map tv) (rest := (S.drop k).map tv) ⟨C.1, C.2.1, C.2.2.1, C.2.2.2.1, hts⟩ (hM l G K Ls (fun v hv => hs v (List.mem_of_mem_take (List.mem_reverse.mp hv)))) ⟨callB_of k hts (mws_good ok.1.1) rfl rfl rfl (hts _ ok.1.2.1) (hts _ hw) ok.1.2.2.1 ⟨r.1, ?_⟩, hts _ ok.2⟩ ⟨HB.blind, fun U hU hW => ⟨rfl, ?_⟩⟩ rfl ?_ hl.1 (take_rev S k) ?_ hd ⟨Nat.le_trans f1 r.2.2.1, Nat.le_trans f2 r.2.2.2⟩) hS hB.2.2.2.1.2.1 hB.2.2.2.2.2.2.2 (fun v K' Ls' h' H1 locs1 g1 g2 g3 g4 g5 => ?_)
    · have := ok.1.2.2.2
      show 8 + (y.2.2.1 + 11) + 64 * d' ≤ R.locals
      omega
    · show HB G K Ls h U U.heap U.heap
      rw [hU]; exact (HB.here hS hB).warm hW
    · rw [List.length_map, List.length_reverse]; exact b2
    · show 2 * 0 + (((S.drop k).map tv).map fun v => v.category).sum ≤ 8
      rw [sw_cat]; omega
    · have := hn _ _ _ _ _ _ g1 f1 f2 K' Ls' H1 locs1 ls g2 g3 (hE.tr g5) (lrel_ext (fun v hv => okv_ext g5 hv) hl) (fun w hw => by
        rcases List.mem_append.mp hw with z | z
        · cases v with
          | none => cases z
          | some v =>
            rcases List.mem_singleton.mp z with rfl
            exact g4 _ rfl
        · exact okv_ext g5 (hs w (List.mem_of_mem_drop z)))
      rw [List.map_append] at this
      rw [show (v.map tv).toList = v.toList.map tv by cases v <;> rfl]
      exact this
theorem k_cSN {x k mc' ms' : Nat} {y : MI} (hd : decode cc pc = .ok (.invokestatic x, 3)) (hw : (own, x, y.1) ∈ nests) (ok : MOKs y k) : SOK own cc nL rt ini pc (s_cS (pc + 3) y k mc' ms') := by
  intro p l e R s m args below meth c G K0 d mc ms kk Q C nx hn L S h cu su st h1 h2 K Ls H locs ls hB hS hE hl hs
  unfold s_cS at st
  cases hb : Nat.ble (sw (S.drop k)) 8 && Nat.beq (S.take k).length k with
  | false => rw [hb] at st; exact st.elim
  | true =>
    rw [hb] at st
    obtain ⟨b1, b2⟩ := Bool.and_eq_true_iff.mp hb
    have b1 := Nat.le_of_ble_eq_true b1
    have b2 := Nat.eq_of_beq_eq_true b2
    rw [cond_true] at st
    obtain ⟨d', hd', f1, f2, hM⟩ := cgo_spec st h1 h2
    have r := C.2.2.2.2.2.1
    subst hd'
    have hts := C.2.2.2.2.1
    refine call_go (va_runSN (cc := cc) (nL := nL) (own := own) (host := "ChalkCastle") (Ts := lw_g) (index := x) (n := k) (bytes := y.2.1) (maxL := y.2.2.1) (ret := y.2.2.2) (As := (S.take k).reverse.map tv) (rest := (S.drop k).map tv) ⟨C.1, C.2.1, C.2.2.1, C.2.2.2.1, hts⟩ (hM l G K Ls (fun v hv => hs v (List.mem_of_mem_take (List.mem_reverse.mp hv)))) ⟨va_cnB k hts (mws_good ok.1.1) rfl rfl rfl (hB.2.2.2.2.2.2.2.2.2.2 _ hw) (hts _ ok.1.2.1) ok.1.2.2.1 ⟨r.1, ?_⟩, hts _ ok.2, trivial⟩ ⟨HB.blind, fun U hU hW => ⟨rfl, ?_⟩⟩ rfl ?_ hl.1 (take_rev S k) ?_ hd ⟨Nat.le_trans f1 r.2.2.1, Nat.le_trans f2 r.2.2.2⟩) hS hB.2.2.2.1.2.1 hB.2.2.2.2.2.2.2 (fun v K' Ls' h' H1 locs1 g1 g2 g3 g4 g5 => ?_)
    · have := ok.1.2.2.2
      show 8 + (y.2.2.1 + 11) + 64 * d' ≤ R.locals
      omega
    · show HB G K Ls h U U.heap U.heap
      rw [hU]; exact (HB.here hS hB).warm hW
    · rw [List.length_map, List.length_reverse]; exact b2
    · show 2 * 0 + (((S.drop k).map tv).map fun v => v.category).sum ≤ 8
      rw [sw_cat]; omega
    · have := hn _ _ _ _ _ _ g1 f1 f2 K' Ls' H1 locs1 ls g2 g3 (hE.tr g5) (lrel_ext (fun v hv => okv_ext g5 hv) hl) (fun w hw => by
        rcases List.mem_append.mp hw with z | z
        · cases v with
          | none => cases z
          | some v =>
            rcases List.mem_singleton.mp z with rfl
            exact g4 _ rfl
        · exact okv_ext g5 (hs w (List.mem_of_mem_drop z)))
      rw [List.map_append] at this
      rw [show (v.map tv).toList = v.toList.map tv by cases v <;> rfl]
      exact this
theorem drop_cons {S S' : List pv} {k : Nat} {v : pv} (h : S.drop k = v :: S') : S.drop (k + 1) = S' ∧ v ∈ S := by
  constructor
  · rw [← List.drop_drop, h]; rfl
  · exact List.mem_of_mem_drop (by rw [h]; exact List.mem_cons_self)
theorem k_cV {ci x k mc' ms' N : Nat} {T : u_T} {y : MI} (hd : decode cc pc = .ok (.invokevirtual x, 3)) (hw : Cond.methodLink own x y.1 ∈ lw_g) (ok : MOKv y k) (hc : vwCl[ci]? = some (y.1.cls, T, N) := by rfl) (hci : ci < 8 := by decide) : SOK own cc nL rt ini pc (s_cV (pc + 3) y (ci + 1) k mc' ms') := by
  intro p l e R s m args below meth c G K0 d mc ms kk Q C nx hn L S h cu su st h1 h2 K Ls H locs ls hB hS hE hl hs
  unfold s_cV at st
  cases hb : Nat.ble (sw (S.drop (k + 1))) 8 && Nat.beq (S.take k).length k with
  | false => rw [hb] at st; exact st.elim
  | true =>
    rw [hb] at st
    obtain ⟨b1, b2⟩ := Bool.and_eq_true_iff.mp hb
    have b1 := Nat.le_of_ble_eq_true b1
    have b2 := Nat.eq_of_beq_eq_true b2
    simp only [cond_true] at st
    split at st
    · next t z S' hdr =>
      obtain ⟨dr1, dr2⟩ := drop_cons hdr
      have hz := hs _ dr2
      cases ht : Nat.beq t (ci + 1) with
      | false => rw [ht] at st; exact st.elim
      | true =>
        rw [ht] at st
        have et := Nat.eq_of_beq_eq_true ht
        subst et
        cases z with
        | zero => exact (st : False).elim
        | succ a =>
          have hka : K a = ci + 1 := (hz a rfl).1
          rw [cond_true, if_neg (Nat.succ_ne_zero a)] at st
          obtain ⟨d', hd', f1, f2, hM⟩ := cgo_spec st h1 h2
          have r := C.2.2.2.2.2.1
          subst hd'
          have hts := C.2.2.2.2.1
          obtain ⟨q, hq⟩ := hb_at hB (a := a) (by omega) (by omega)
          rw [Fh_obj hka hci] at hq
          refine call_go (va_runV (cc := cc) (nL := nL) (own := own) (C := y.1.cls) (Ts := lw_g) (index := x) (n := k) (bytes := y.2.1) (maxL := y.2.2.1) (ret := y.2.2.2) (b := a) (As := (S.take k).reverse.map tv) (rest := (S.drop (k + 1)).map tv) ⟨C.1, C.2.1, C.2.2.1, C.2.2.2.1, hts⟩ (hM l G K Ls (List.forall_mem_cons.mpr ⟨hz, fun v hv => hs v (List.mem_of_mem_take (List.mem_reverse.mp hv))⟩)) ⟨callB_of k hts (mws_good ok.1.1) rfl rfl rfl (hts _ ok.1.2.1) (hts _ hw) ok.1.2.2.1 ⟨r.1, ?_⟩, hts _ ok.2.1, hts _ ok.2.2⟩ ⟨HB.blind, va_recv hB.1 hB.2.1 hc hq, fun U hU hW => ⟨rfl, ?_⟩⟩ rfl ?_ hl.1 ?_ ?_ hd ⟨Nat.le_trans f1 r.2.2.1, Nat.le_trans f2 r.2.2.2⟩) hS hB.2.2.2.1.2.1 hB.2.2.2.2.2.2.2 (fun v K' Ls' h' H1 locs1 g1 g2 g3 g4 g5 => ?_)
          · have := ok.1.2.2.2
            show 8 + (y.2.2.1 + 11) + 64 * d' ≤ R.locals
            omega
          · show HB G K Ls h U U.heap U.heap
            rw [hU]; exact (HB.here hS hB).warm hW
          · rw [List.length_map, List.length_reverse]; exact b2
          · show S.map tv = _
            rw [take_rev S k, hdr, dr1]
            rfl
          · show 2 * 0 + (((S.drop (k + 1)).map tv).map fun v => v.category).sum ≤ 8
            rw [sw_cat]; omega
          · have := hn _ _ _ _ _ _ g1 f1 f2 K' Ls' H1 locs1 ls g2 g3 (hE.tr g5) (lrel_ext (fun v hv => okv_ext g5 hv) hl) (fun w hw => by
              rcases List.mem_append.mp hw with z | z
              · cases v with
                | none => cases z
                | some v =>
                  rcases List.mem_singleton.mp z with rfl
                  exact g4 _ rfl
              · exact okv_ext g5 (hs w (List.mem_of_mem_drop z)))
            rw [List.map_append] at this
            rw [show (v.map tv).toList = v.toList.map tv by cases v <;> rfl]
            exact this
    · exact st.elim
theorem k_cI {ci x k mc' ms' : Nat} {y : MI} (hd : decode cc pc = .ok (.invokespecial x, 3)) (hw : Cond.methodLink own x y.1 ∈ lw_g) (ok : MOKi y k) : SOK own cc nL rt ini pc (s_cV (pc + 3) y (ci + 1) k mc' ms') := by
  intro p l e R s m args below meth c G K0 d mc ms kk Q C nx hn L S h cu su st h1 h2 K Ls H locs ls hB hS hE hl hs
  unfold s_cV at st
  cases hb : Nat.ble (sw (S.drop (k + 1))) 8 && Nat.beq (S.take k).length k with
  | false => rw [hb] at st; exact st.elim
  | true =>
    rw [hb] at st
    obtain ⟨b1, b2⟩ := Bool.and_eq_true_iff.mp hb
    have b1 := Nat.le_of_ble_eq_true b1
    have b2 := Nat.eq_of_beq_eq_true b2
    simp only [cond_true] at st
    split at st
    · next t z S' hdr =>
      obtain ⟨dr1, dr2⟩ := drop_cons hdr
      have hz := hs _ dr2
      cases ht : Nat.beq t (ci + 1) with
      | false => rw [ht] at st; exact st.elim
      | true =>
        rw [ht] at st
        cases z with
        | zero => exact (st : False).elim
        | succ a =>
          rw [cond_true, if_neg (Nat.succ_ne_zero a)] at st
          obtain ⟨d', hd', f1, f2, hM⟩ := cgo_spec st h1 h2
          have r := C.2.2.2.2.2.1
          subst hd'
          have hts := C.2.2.2.2.1
          have hcb := callB_of (own := own) (index := x) (R := R) (rm := rmO d' mc' ms') (mc := mc') (ms := ms') k hts (mws_good ok.1.1) rfl rfl rfl (hts _ ok.1.2.1) (hts _ hw) ok.1.2.2.1 ⟨r.1, by
            have := ok.1.2.2.2
            show 8 + (y.2.2.1 + 11) + 64 * d' ≤ R.locals
            omega⟩
          rw [ok.2.2.2] at hcb
          refine call_go (va_runI (cc := cc) (nL := nL) (own := own) (Ts := lw_g) (index := x) (n := k) (bytes := y.2.1) (maxL := y.2.2.1) (b := a) (As := (S.take k).reverse.map tv) (rest := (S.drop (k + 1)).map tv) ⟨C.1, C.2.1, C.2.2.1, C.2.2.2.1, hts⟩ (hM l G K Ls (List.forall_mem_cons.mpr ⟨hz, fun v hv => hs v (List.mem_of_mem_take (List.mem_reverse.mp hv))⟩)) ⟨hcb, ok.2.2.1, hts _ ok.2.1⟩ ⟨HB.blind, fun U hU hW => ⟨rfl, ?_⟩⟩ rfl ?_ hl.1 ?_ ?_ hd ⟨Nat.le_trans f1 r.2.2.1, Nat.le_trans f2 r.2.2.2⟩) hS hB.2.2.2.1.2.1 hB.2.2.2.2.2.2.2 (fun v K' Ls' h' H1 locs1 g1 g2 g3 g4 g5 => ?_)
          · show HB G K Ls h U U.heap U.heap
            rw [hU]; exact (HB.here hS hB).warm hW
          · rw [List.length_map, List.length_reverse]; exact b2
          · show S.map tv = _
            rw [take_rev S k, hdr, dr1]
            rfl
          · show 2 * 0 + (((S.drop (k + 1)).map tv).map fun v => v.category).sum ≤ 8
            rw [sw_cat]; omega
          · have := hn _ _ _ _ _ _ g1 f1 f2 K' Ls' H1 locs1 ls g2 g3 (hE.tr g5) (lrel_ext (fun v hv => okv_ext g5 hv) hl) (fun w hw => by
              rcases List.mem_append.mp hw with z | z
              · cases v with
                | none => cases z
                | some v =>
                  rcases List.mem_singleton.mp z with rfl
                  exact g4 _ rfl
              · exact okv_ext g5 (hs w (List.mem_of_mem_drop z)))
            rw [List.map_append] at this
            rw [show (v.map tv).toList = v.toList.map tv by cases v <;> rfl]
            exact this
    · exact st.elim
end K6
theorem blk_ok {p : Program} {l : Launch} {e : Env} {R : Room} {s : State} {m : MethodId} {args : Array Value} {below : List Frame} {meth : Method} {c : Code} {G : Gh} {K0 : Nat → Nat} {own : String} {cc : ByteArray} {nL : Nat} {rt : Option FieldType} {ini : Bool} {d mc ms : Nat} {kk : Rt} {Q : State → Prop} {P : Nat → Step}
    (hP : ∀ pc, SOK own cc nL rt ini pc (P pc)) (C : CX p l e R s m args below meth c G K0 own cc nL rt ini d mc ms kk Q) (cut : Nat → Bool) : ∀ (n pc : Nat) (L : Lo) (S : List pv) (h : hp) (cu su : Nat), blk P cut (WM p l e R s m args below meth c G K0 nL mc ms Q) CL d mc ms kk n pc L S h cu su → WM p l e R s m args below meth c G K0 nL mc ms Q pc L S h cu su := by
  intro n
  induction n with
  | zero => intro pc L S h cu su hf; exact (hf : False).elim
  | succ n ih =>
    intro pc L S h cu su hf
    have hf : (bif cut pc then WM p l e R s m args below meth c G K0 nL mc ms Q pc L S h cu su else P pc CL d mc ms kk (blk P cut (WM p l e R s m args below meth c G K0 nL mc ms Q) CL d mc ms kk n) L S h cu su) := hf
    cases hc : cut pc with
    | true => rw [hc] at hf; exact hf
    | false =>
      rw [hc] at hf
      exact hP pc p l e R s m args below meth c G K0 d mc ms kk Q C _ ih L S h cu su hf
def TAB (y : MI) (P : Nat → Step) : Prop := plainName y.1.cls = true ∧ ∃ ini, (ini = true → y.1.name = "<init>") ∧ ∀ pc, SOK y.1.cls y.2.1 y.2.2.1 y.2.2.2 ini pc (P pc)
theorem largs_len : ∀ (as : List pv) (n : Nat), sw as ≤ n → (largs as n).length = n
  | [], n, _ => by simp [largs]
  | .inl v :: t, 0, h => by simp [sw] at h
  | .inr (.inl v) :: t, 0, h => by simp [sw] at h
  | .inr (.inr v) :: t, 0, h => by simp [sw] at h
  | .inl v :: t, n + 1, h => by
    show (largs t n).length + 1 = n + 1
    rw [largs_len t n (by simp only [sw] at h; omega)]
  | .inr (.inr v) :: t, n + 1, h => by
    show (largs t n).length + 1 = n + 1
    rw [largs_len t n (by simp only [sw] at h; omega)]
  | .inr (.inl v) :: t, 1, h => by simp only [sw] at h; omega
  | .inr (.inl v) :: t, n + 2, h => by
    show (largs t n).length + 1 + 1 = n + 2
    rw [largs_len t n (by simp only [sw] at h; omega)]
theorem lget_rep : ∀ (n i : Nat) (v : pv), lget (List.replicate n none) i = some v → False
  | 0, i, v, h => by simp [lget] at h
  | n + 1, 0, v, h => by simp [lget, List.replicate_succ] at h
  | n + 1, i + 1, v, h => lget_rep n i v h
theorem largs_get : ∀ (as : List pv) (n j i : Nat) (v : pv), lget (largs as n) i = some v → (j + i, tv v) ∈ lv_args j (as.map tv) ∧ v ∈ as
  | [], n, j, i, v, h => (lget_rep n i v h).elim
  | .inl w :: t, 0, j, i, v, h => by simp [largs, lget] at h
  | .inr (.inl w) :: t, 0, j, i, v, h => by simp [largs, lget] at h
  | .inr (.inr w) :: t, 0, j, i, v, h => by simp [largs, lget] at h
  | .inl w :: t, n + 1, j, i, v, h => by
    have e : lv_args j ((.inl w :: t : List pv).map tv) = (j, .int w) :: lv_args (j + 1) (t.map tv) := rfl
    rw [e]
    cases i with
    | zero =>
      have h : some (Sum.inl w) = some v := h
      cases h
      exact ⟨List.mem_cons_self, List.mem_cons_self⟩
    | succ i =>
      have := largs_get t n (j + 1) i v h
      rw [show j + 1 + i = j + (i + 1) by omega] at this
      exact ⟨List.mem_cons_of_mem _ this.1, List.mem_cons_of_mem _ this.2⟩
  | .inr (.inr w) :: t, n + 1, j, i, v, h => by
    have e : lv_args j ((.inr (.inr w) :: t : List pv).map tv) = (j, tv (.inr (.inr w))) :: lv_args (j + 1) (t.map tv) := by
      obtain ⟨q, x⟩ := w
      cases x <;> rfl
    rw [e]
    cases i with
    | zero =>
      have h : some (Sum.inr (Sum.inr w)) = some v := h
      cases h
      exact ⟨List.mem_cons_self, List.mem_cons_self⟩
    | succ i =>
      have := largs_get t n (j + 1) i v h
      rw [show j + 1 + i = j + (i + 1) by omega] at this
      exact ⟨List.mem_cons_of_mem _ this.1, List.mem_cons_of_mem _ this.2⟩
  | .inr (.inl w) :: t, 1, j, i, v, h => by simp [largs, lget] at h
  | .inr (.inl w) :: t, n + 2, j, i, v, h => by
    have e : lv_args j ((.inr (.inl w) :: t : List pv).map tv) = (j, .long w) :: lv_args (j + 2) (t.map tv) := rfl
    rw [e]
    match i, h with
    | 0, h =>
      have h : some (Sum.inr (Sum.inl w)) = some v := h
      cases h
      exact ⟨List.mem_cons_self, List.mem_cons_self⟩
    | 1, h => cases h
    | i + 2, h =>
      have := largs_get t n (j + 2) i v h
      rw [show j + 2 + i = j + (i + 2) by omega] at this
      exact ⟨List.mem_cons_of_mem _ this.1, List.mem_cons_of_mem _ this.2⟩
theorem lgsl_len : ∀ (as : List pv), (lg_sl (as.map tv)).length = sw as
  | [] => rfl
  | .inl w :: t => by
    have := lgsl_len t
    simp only [lg_sl, List.map_cons, List.flatMap_cons, List.length_append] at this ⊢
    rw [this]
    show 1 + sw t = sw t + 1
    omega
  | .inr (.inl w) :: t => by
    have := lgsl_len t
    simp only [lg_sl, List.map_cons, List.flatMap_cons, List.length_append] at this ⊢
    rw [this]
    show 2 + sw t = sw t + 2
    omega
  | .inr (.inr (q, x)) :: t => by
    have := lgsl_len t
    simp only [lg_sl, List.map_cons, List.flatMap_cons, List.length_append] at this ⊢
    rw [this]
    cases x
    · show 1 + sw t = sw t + 1
      omega
    · show 1 + sw t = sw t + 1
      omega
/-- fewer locals known -/
def leL : Lo → Lo → Prop
  | [], [] => True
  | none :: a, _ :: b => leL a b
  | some v :: a, o :: b => o = some v ∧ leL a b
  | _, _ => False
theorem ln : leL [] [] := trivial
theorem l0 {o : Option pv} {a b : Lo} (h : leL a b) : leL (none :: a) (o :: b) := h
theorem l1 {o : Option pv} {v : pv} {a b : Lo} (e : o = some v) (h : leL a b) : leL (some v :: a) (o :: b) := ⟨e, h⟩
theorem leL_len : ∀ {a b : Lo}, leL a b → a.length = b.length
  | [], [], _ => rfl
  | none :: a, _ :: b, h => by
    have := leL_len (a := a) (b := b) h
    simp [this]
  | some v :: a, o :: b, h => by
    have := leL_len (a := a) (b := b) h.2
    simp [this]
  | [], _ :: _, h => h.elim
  | none :: _, [], h => h.elim
  | some _ :: _, [], h => h.elim
theorem leL_get : ∀ {a b : Lo} {i : Nat} {v : pv}, leL a b → lget a i = some v → lget b i = some v
  | [], [], i, v, _, h => by simp [lget] at h
  | none :: a, _ :: b, 0, v, _, h => by cases h
  | none :: a, _ :: b, i + 1, v, hl, h => leL_get (a := a) (b := b) hl h
  | some w :: a, o :: b, 0, v, hl, h => by
    show o = some v
    rw [hl.1]; exact h
  | some w :: a, o :: b, i + 1, v, hl, h => leL_get (a := a) (b := b) hl.2 h
  | [], _ :: _, _, _, hl, _ => hl.elim
  | none :: _, [], _, _, hl, _ => hl.elim
  | some _ :: _, [], _, _, hl, _ => hl.elim
/-- a method's contract, out of its table -/
theorem mv3 {y : MI} {P : Nat → Step} (T : TAB y P) {d mc ms : Nat} {as : List pv} {h : hp} {kk : Rt} (ha : sw as ≤ y.2.2.1) (body : ∀ Wm : Nx, (∀ (cut : Nat → Bool) (n pc : Nat) (L : Lo) (S : List pv) (h : hp) (cu su : Nat), P pc CL d mc ms kk (blk P cut Wm CL d mc ms kk n) L S h cu su → Wm pc L S h cu su) → (∀ (L' : Lo) (pc : Nat) (L : Lo) (S : List pv) (h : hp) (cu su : Nat), Wm pc L' S h cu su → leL L' L → Wm pc L S h cu su) → Wm 0 (largs as y.2.2.1) [] h 0 0) : CL d y mc ms as h kk := by
  intro l G K Ls hok
  obtain ⟨hpl, ini, hin, hP⟩ := T
  refine Met.ofW (cc := y.2.1) (maxL := y.2.2.1) (ret := y.2.2.2) hpl rfl ?_
  intro p e s m args below meth c s₁ B hml hv
  obtain ⟨rfl, hB⟩ := hv
  have hts : ∀ w ∈ lw_g, w.before (as.map tv).toArray s = true := fun w hw => atoms_spec (ws := mws y) B.pre w (List.mem_cons_of_mem _ hw)
  have hlocks := B.notSynchronized
  have C : CX p l e (rmO d mc ms) s m (as.map tv).toArray below meth c G K y.1.cls y.2.1 y.2.2.1 y.2.2.2 ini d mc ms kk (MQ below (QcK G K kk) (as.map tv).toArray s mc ms (gA G)) := by
    refine ⟨B.exec, B.bytes, hml, findClass_of_methodNamed B.named, hts, ⟨Nat.le_refl _, Nat.le_refl _, Nat.le_refl _, Nat.le_refl _⟩, fun hi => (name_of_methodNamed B.named B.method).1.trans (hin hi), ?_⟩
    intro v h' cu su hk h1 h2 hrt K' Ls' H locs ls pc hB' hS hE hok' hd
    have hq : ∀ t : State, t.heap = H → s.WarmedH t.vm → QcK G K kk (as.map tv).toArray s (.returned (v.map tv)) t := by
      intro t ht hW
      refine ⟨⟨v, K', Ls', h', rfl, hk, ?_, hok', hE⟩, hS.F ht⟩
      rw [ht]
      exact (HB.here hS hB').warm hW
    refine W.widen (k := mc) (n := ms) h1 h2 ?_
    match v, hrt, hd, hq with
    | none, hrt, hd, hq => exact W.vret B.exec B.bytes (B.returns.trans hrt) hq hS.2.2 hd
    | some (.inl w), hrt, hd, hq =>
      rcases hrt with hrt | ⟨hrt, hw⟩
      · exact W.iret B.exec B.bytes (B.returns.trans hrt) hq hS.2.2 hd
      · refine W.zret B.exec B.bytes (B.returns.trans hrt) ?_ hq hS.2.2 hd
        rcases hw with rfl | rfl <;> decide
    | some (.inr (.inl w)), hrt, hd, hq => exact W.lret B.exec B.bytes (B.returns.trans hrt) hq hS.2.2 hd
    | some (.inr (.inr w)), hrt, hd, hq => exact (hrt : False).elim
  have key := body (WM p l e (rmO d mc ms) s m (as.map tv).toArray below meth c G K y.2.2.1 mc ms (MQ below (QcK G K kk) (as.map tv).toArray s mc ms (gA G))) (fun cut n pc L S h cu su hh => hP pc p l e (rmO d mc ms) s m _ below meth c G K d mc ms kk _ C _ (blk_ok hP C cut n) L S h cu su hh) (fun L' pc L S h cu su hw hle a1 a2 K Ls H locs ls b1 b2 b3 b4 b5 => hw a1 a2 K Ls H locs ls b1 b2 b3 ⟨b4.1, b4.2.1, (leL_len hle).trans b4.2.2.1, fun i v hi => b4.2.2.2 i v (leL_get hle hi)⟩ b5)
  have hl := lv_entry (as.map tv) (n := y.2.2.1) (by rw [lgsl_len]; exact ha)
  rw [lg_entry_eq]
  exact key (Nat.zero_le _) (Nat.zero_le _) K Ls s.heap [] _ hB va_S.rf (Ext.rf K) ⟨hl.1, hl.2.1, largs_len _ _ ha, fun i v hi => by
    obtain ⟨q1, q2⟩ := largs_get as _ 0 i v hi
    rw [Nat.zero_add] at q1
    exact ⟨hl.2.2 _ q1, hok v q2⟩⟩ (fun v hv => by cases hv)
theorem mv {y : MI} {P : Nat → Step} (T : TAB y P) {d mc ms : Nat} {as : List pv} {h : hp} {kk : Rt} (ha : sw as ≤ y.2.2.1) (body : ∀ Wm : Nx, (∀ (cut : Nat → Bool) (n pc : Nat) (L : Lo) (S : List pv) (h : hp) (cu su : Nat), P pc CL d mc ms kk (blk P cut Wm CL d mc ms kk n) L S h cu su → Wm pc L S h cu su) → Wm 0 (largs as y.2.2.1) [] h 0 0) : CL d y mc ms as h kk := mv3 T ha (fun Wm go _ => body Wm go)
