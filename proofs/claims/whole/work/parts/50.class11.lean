/-! ===== the class: images, counts, the trace ===== -/
section C13
variable {H : hp} {K : Nat → Nat} {y : Nat}
theorem CS.wra {a : Nat} {g : Nat → Nat} (h : CS H K y) (h1 : K a ≠ 51) (h3 : K a ≠ 53) : CS (waR H a g) K y := by
  obtain ⟨k, p1, n1, t1, ⟨a1, a2⟩, i1, ⟨s1, s2⟩, f1, q, u, r1⟩ := h
  refine ⟨k, p1, n1, t1, ⟨a1, fun i hi => ?_⟩, i1, ⟨s1, fun i hi => ?_⟩, f1, q, u, r1⟩
  · have e : haR (waR H a g) (hfR H 607 y) = haR H (hfR H 607 y) := va_up_ne _ _ (fun e => h1 (by rw [← e]; exact a1.2.1))
    show SS H K (haR (waR H a g) (hfR H 607 y) i) (1 + i)
    rw [e]; exact a2 i hi
  · have e : haR (waR H a g) (hfR H 611 y) = haR H (hfR H 611 y) := va_up_ne _ _ (fun e => h3 (by rw [← e]; exact s1.2.1))
    show SS H K (haR (waR H a g) (hfR H 611 y) i) (25 + i)
    rw [e]; exact s2 i hi
theorem wfR_ne {f x v f' x' : Nat} (h : f' ≠ f) : hfR (wfR H f x v) f' x' = hfR H f' x' := if_neg h
theorem wfR_eq {f x v : Nat} : hfR (wfR H f x v) f x = v := by
  show (if f = f then (if x = x then v else _) else _) = v
  rw [if_pos rfl, if_pos rfl]
theorem CS.wpl {p : Nat} (h : CS H K y) (hp : PP H K p) : CS (wfR H 605 y p) K y := by
  obtain ⟨k, -, r⟩ := h
  refine ⟨k, ?_, r⟩
  rw [wfR_eq]
  exact hp
end C13
section C14
variable {d y n cm : Nat} {H : hp} {K : Nat → Nat} {V W : Nat → Nat → Int32} {kk : Rt}
theorem c_trace {i : Int32} {tm : Nat} (hS : CS H K (y + 1)) (ht : V 1 3 = nI tm) (ht16 : tm ≤ 16) (hb : ¬ inB i tm → kk (some (.inl eNONE)) (CU H K V W)) (hg : ∀ c, c < tm → i = nI c → kk (some (.inl (W 5 c))) (CU H K V W)) : CL (d + 1) mX6_trace 0 0 [.inr (.inr (7, y + 1)), .inl i] (CU H K V W) kk := by
  obtain ⟨⟨u1, u2⟩, ⟨u3, u4, u5⟩⟩ := hS.ask
  refine mw T_X6_trace (fun Wm go => go cut0 60 0 _ _ _ _ _ ?_)
  refine nz u1 ?_
  refine c_isBelow (m := tm) ((CU_fI u2 (by decide)).trans ht) (by omega) (fun q => br1 ?_) (fun q => br0 (hb q))
  obtain ⟨c, hc, rfl⟩ := inB_of q (by omega)
  refine nz u1 ?_
  exact cld u3 u4 (by decide) u5 (by omega) c rfl (by omega) (hg c hc rfl)
/-- one for each row that is there -/
abbrev rtC (H : hp) (y : Nat) (k : Nat) : Int32 := if haR H (hfR H 600 y) k = 0 then 0 else 1
theorem c_rowsThere (hS : CS H K (y + 1)) (hk : kk (some (.inl (smI (rtC H (y + 1)) 8))) (CU H K V W)) : CL d mX6_rowsThere 0 0 [.inr (.inr (7, y + 1))] (CU H K V W) kk := by
  obtain ⟨r1, r2, r3⟩ := hS.rows
  refine mw T_X6_rowsThere (fun Wm go => go (cut1 4) 60 0 _ _ _ _ _ ?_)
  refine upto (n := 8) (P := fun k => Wm 4 [some (.inr (.inr (7, y + 1))), some (.inl (smI (rtC H (y + 1)) k)), some (.inl (nI k))] [] (CU H K V W) 0 0) (fun k hkn ih => ?_) 0 (Nat.zero_le _)
  refine go (cut1 4) 60 4 _ _ _ _ _ ?_
  refine icg rfl (show (8 : Int32) = nI 8 from rfl) (by omega) (by omega) (fun c => ?_) (fun c => ?_)
  · have e : k = 8 := by omega
    subst e
    exact hk
  · have e := ih c
    rw [← nI_1 k] at e
    have hs : smI (rtC H (y + 1)) (k + 1) = smI (rtC H (y + 1)) k + rtC H (y + 1) k := rfl
    rw [hs] at e
    refine nz r1 (And.intro ?_ ?_)
    · show vp_in (nI k) (haL H (hfR H 600 (y + 1)))
      rw [r3]; exact vp_in_nI c (by omega)
    · have ei : haR (CU H K V W) (hfR (CU H K V W) 600 (y + 1)) (nI k).toNatClampNeg = haR H (hfR H 600 (y + 1)) k := by rw [nI_clamp (by omega)]; rfl
      refine And.intro (fun z => ?_) (fun z => ?_)
      · have z : haR H (hfR H 600 (y + 1)) k = 0 := ei.symm.trans z
        rw [show rtC H (y + 1) k = 0 from if_pos z, Int32.add_zero] at e
        exact e
      · have z : ¬ haR H (hfR H 600 (y + 1)) k = 0 := fun q => z (ei.trans q)
        rw [show rtC H (y + 1) k = 1 from if_neg z] at e
        exact e
theorem c_count {wh : Int32} (hS : CS H K (y + 1)) (hk : kk (some (.inl (if wh = 0 then smI (rtC H (y + 1)) 8 else if wh = 1 then pI H (hfR H 605 (y + 1)) 102 else if wh = 2 then pI H (hfR H 605 (y + 1)) 103 else if wh = 3 then pI H (hfR H 605 (y + 1)) 104 else if wh = 4 then V 503 10 else if wh = 5 then smI (W 200) 4 else if wh = 6 then V 609 1 else if wh = 7 then V 602 1 else eBAD))) (CU H K V W)) : CL (d + 1) mX6_count 0 0 [.inr (.inr (7, y + 1)), .inl wh] (CU H K V W) kk := by
  refine mw T_X6_count (fun Wm go => go cut0 60 0 _ _ _ _ _ ?_)
  have a1 := hS.now.1.1
  have a2 := hS.now.1.2.1
  refine And.intro (fun w0 => ?_) (fun w0 => And.intro (fun w1 => ?_) (fun w1 => And.intro (fun w2 => ?_) (fun w2 => And.intro (fun w3 => ?_) (fun w3 => And.intro (fun w4 => ?_) (fun w4 => And.intro (fun w5 => ?_) (fun w5 => And.intro (fun w6 => ?_) (fun w6 => And.intro (fun w7 => ?_) (fun w7 => ?_))))))))
  · rw [if_pos w0] at hk
    exact c_rowsThere hS hk
  · rw [if_neg w0, if_pos w1] at hk
    exact nz hS.pl.1.1 (kki hk (CU_fIo hS.pl.1.2) rfl)
  · rw [if_neg w0, if_neg w1, if_pos w2] at hk
    exact nz hS.pl.1.1 (kki hk (CU_fIo hS.pl.1.2) rfl)
  · rw [if_neg w0, if_neg w1, if_neg w2, if_pos w3] at hk
    exact nz hS.pl.1.1 (kki hk (CU_fIo hS.pl.1.2) rfl)
  · rw [if_neg w0, if_neg w1, if_neg w2, if_neg w3, if_pos w4] at hk
    exact nz a1 (kki hk (CU_fI a2 (by decide)) rfl)
  · rw [if_neg w0, if_neg w1, if_neg w2, if_neg w3, if_neg w4, if_pos w5] at hk
    exact nz a1 (c_allLines (CU_e _ _ _ _ _ _) hS.now hk)
  · rw [if_neg w0, if_neg w1, if_neg w2, if_neg w3, if_neg w4, if_neg w5, if_pos w6] at hk
    exact kki hk (CU_fI hS.y1 (by decide)) rfl
  · rw [if_neg w0, if_neg w1, if_neg w2, if_neg w3, if_neg w4, if_neg w5, if_neg w6, if_pos w7] at hk
    exact kki hk (CU_fI hS.y1 (by decide)) rfl
  · rw [if_neg w0, if_neg w1, if_neg w2, if_neg w3, if_neg w4, if_neg w5, if_neg w6, if_neg w7] at hk
    exact hk
theorem c_image {ki : Int32} (hS : CS H K (y + 1)) (hn : Pn H (hfR H 605 (y + 1)) n cm) (hb : ¬ inB ki 2 → kk (some (.inl eBAD)) (CU H K V W)) (hs : inB ki 2 → n = 0 → kk (some (.inl eSTATE)) (CU H K V W)) (hg : ∀ k, k < 2 → ki = nI k → 0 < n → kk (some (.inl 1)) (CU (waR H (hfR H 610 (y + 1)) (va_up (haR H (hfR H 610 (y + 1))) k (hfR H 605 (y + 1)))) K (beV V (25 + k) 0) (beW W (25 + k) 0))) : CL (d + 2) mX6_image 0 0 [.inr (.inr (7, y + 1)), .inl ki] (CU H K V W) kk := by
  obtain ⟨j1, j2, j3⟩ := hS.ipl
  refine mw T_X6_image (fun Wm go => go (cut1 31) 60 0 _ _ _ _ _ ?_)
  refine c_isBelow (m := 2) rfl (by omega) (fun q => br1 ?_) (fun q => br0 (hb q))
  refine c_hasCastle hS hn (fun q1 => br1 ?_) (fun q1 => br0 (hs q q1))
  obtain ⟨k, hk, rfl⟩ := inB_of q (by omega)
  have hg := hg k hk rfl q1
  refine nz j1 (And.intro ?_ ?_)
  · show vp_in (nI k) (haL H (hfR H 610 (y + 1)))
    rw [j3]; exact vp_in_nI hk (by omega)
  refine wmc (Wm := Wm) (h' := CU (waR H (hfR H 610 (y + 1)) (va_up (haR H (hfR H 610 (y + 1))) k (hfR H 605 (y + 1)))) K V W) ?_ rfl (by rw [nI_clamp (by omega)]; rfl)
  have hS' := hS.wra (g := va_up (haR H (hfR H 610 (y + 1))) k (hfR H 605 (y + 1))) (a := hfR H 610 (y + 1)) (by omega) (by omega)
  generalize waR H (hfR H 610 (y + 1)) (va_up (haR H (hfR H 610 (y + 1))) k (hfR H 605 (y + 1))) = H1 at *
  obtain ⟨⟨s1, s2, s3⟩, s4⟩ := hS'.ist
  refine go cut0 60 31 _ _ _ _ _ ?_
  refine nz s1 (And.intro ?_ ?_)
  · show vp_in (nI k) (haL H1 (hfR H1 611 (y + 1)))
    rw [s3]; exact vp_in_nI hk (by omega)
  have ei : haR (CU H1 K V W) (hfR (CU H1 K V W) 611 (y + 1)) (nI k).toNatClampNeg = haR H1 (hfR H1 611 (y + 1)) k := by rw [nI_clamp (by omega)]; rfl
  refine nz (by rw [ei]; exact (s4 k hk).1.1) ?_
  exact c_become hS'.k ei (s4 k hk) (CU_e _ _ _ _ _ _) hS'.now hg
theorem c_restore {ki : Int32} (hS : CS H K (y + 1)) (hb : ¬ inB ki 2 → kk (some (.inl eBAD)) (CU H K V W)) (hs : ∀ k, k < 2 → ki = nI k → haR H (hfR H 610 (y + 1)) k = 0 → kk (some (.inl eSTATE)) (CU H K V W)) (hpp : ∀ k, k < 2 → haR H (hfR H 610 (y + 1)) k ≠ 0 → PP H K (haR H (hfR H 610 (y + 1)) k)) (hg : ∀ k, k < 2 → ki = nI k → haR H (hfR H 610 (y + 1)) k ≠ 0 → kk (some (.inl 1)) (CU (wfR H 605 (y + 1) (haR H (hfR H 610 (y + 1)) k)) K (up2 (beV V 0 (25 + k)) 609 1 0) (beW W 0 (25 + k)))) : CL (d + 2) mX6_restore 0 0 [.inr (.inr (7, y + 1)), .inl ki] (CU H K V W) kk := by
  obtain ⟨j1, j2, j3⟩ := hS.ipl
  refine mw T_X6_restore (fun Wm go => go (cut1 30) 60 0 _ _ _ _ _ ?_)
  refine c_isBelow (m := 2) rfl (by omega) (fun q => br1 ?_) (fun q => br0 (hb q))
  obtain ⟨k, hk, rfl⟩ := inB_of q (by omega)
  refine nz j1 (And.intro ?_ ?_)
  · show vp_in (nI k) (haL H (hfR H 610 (y + 1)))
    rw [j3]; exact vp_in_nI hk (by omega)
  have ei : haR (CU H K V W) (hfR (CU H K V W) 610 (y + 1)) (nI k).toNatClampNeg = haR H (hfR H 610 (y + 1)) k := by rw [nI_clamp (by omega)]; rfl
  refine And.intro (fun z => hs k hk rfl (ei.symm.trans z)) (fun z => ?_)
  have z : haR H (hfR H 610 (y + 1)) k ≠ 0 := fun w => z (ei.trans w)
  have hg := hg k hk rfl z
  have hpp := hpp k hk z
  refine wmc (Wm := Wm) (h' := CU (wfR H 605 (y + 1) (haR H (hfR H 610 (y + 1)) k)) K V W) ?_ rfl (by rw [ei]; rfl)
  have hS' := hS.wpl hpp
  generalize wfR H 605 (y + 1) (haR H (hfR H 610 (y + 1)) k) = H1 at *
  obtain ⟨⟨s1, s2, s3⟩, s4⟩ := hS'.ist
  refine go cut0 60 30 _ _ _ _ _ ?_
  refine nz s1 (And.intro ?_ ?_)
  · show vp_in (nI k) (haL H1 (hfR H1 611 (y + 1)))
    rw [s3]; exact vp_in_nI hk (by omega)
  have ei : haR (CU H1 K V W) (hfR (CU H1 K V W) 611 (y + 1)) (nI k).toNatClampNeg = haR H1 (hfR H1 611 (y + 1)) k := by rw [nI_clamp (by omega)]; rfl
  refine nz hS'.now.1.1 ?_
  refine c_become hS'.k (CU_e _ _ _ _ _ _) hS'.now ei (s4 k hk) ?_
  exact kki hg rfl (CU_wI hS'.k hS'.y1 (by decide))
end C14
