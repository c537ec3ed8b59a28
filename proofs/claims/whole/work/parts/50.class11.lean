/-! ===== the class: images, counts, the trace ===== -/
section C13
variable {H : hp}
theorem wfR_ne {f x v f' x' : Nat} (h : f' ≠ f) : hfR (wfR H f x v) f' x' = hfR H f' x' := if_neg h
theorem wfR_eq {f x v : Nat} : hfR (wfR H f x v) f x = v := by
  show (if f = f then (if x = x then v else _) else _) = v
  rw [if_pos rfl, if_pos rfl]
end C13
section C14
variable {d y n cm : Nat} {H : hp} {K : Nat → Nat} {V W : Nat → Nat → Int32} {kk : Rt}
theorem c_trace {i : Int32} {tm : Nat} (hS : CS H K (y + 1)) (ht : V 1 3 = nI tm) (ht16 : tm ≤ 16) (hb : ¬ inB i tm → kk (some (.inl eNONE)) (CU H K V W)) (hg : ∀ c, c < tm → i = nI c → kk (some (.inl (W 5 c))) (CU H K V W)) : CL (d + 1) mX6_trace 0 0 [.inr (.inr (7, y + 1)), .inl i] (CU H K V W) kk := by
  obtain ⟨⟨u1, u2⟩, ⟨u3, u4, u5⟩⟩ := hS.ask
  refine mw T_X6_trace (fun Wm go => go cut0 60 0 _ _ _ _ _ ?_)
  refine nz u1 ?_
  refine c_isBelow (m := tm) ((CU_fI u2 (by decide)).trans ht) (by omega) (fun q => br1 ?_) (fun q => br0 (hb q))
  obtain ⟨c, hc, rfl⟩ := inB_of q (by omega)
  refine nz u1 ?_
  exact cld u3 u4 (by decide) u5 (by omega) c rfl (by omega) (hg c hc rfl)
theorem c_isMissing {q' q r : Nat} (eq : q' = q) (hR : RW1 H K q r) (ht : V 302 (310 + r) < 0 → kk (some (.inl 1)) (CU H K V W)) (hf : ¬ V 302 (310 + r) < 0 → kk (some (.inl 0)) (CU H K V W)) : CL d mX3_isMissing 0 0 [.inr (.inr (4, q'))] (CU H K V W) kk := by
  subst eq
  obtain ⟨q, rfl⟩ : ∃ w, q' = w + 1 := ⟨q' - 1, by have := hR.1; omega⟩
  have r8 := hR.2.2.2
  have e : hfI (CU H K V W) 302 (q + 1) = V 302 (310 + r) := CU_fI hR.2.1 (by omega)
  refine mw T_X3_isMissing (fun Wm go => go cut0 40 0 _ _ _ _ _ ?_)
  refine And.intro (fun c => And.intro (Or.inl rfl) (hf ?_)) (fun c => And.intro (Or.inr rfl) (ht ?_))
  · have c : 0 ≤ hfI (CU H K V W) 302 (q + 1) := c
    rw [e] at c
    exact Int32.not_lt.mpr c
  · have c : ¬ 0 ≤ hfI (CU H K V W) 302 (q + 1) := c
    rw [e] at c
    exact Int32.not_le.mp c
abbrev rho (H : hp) (y r : Nat) : Nat := haR H (hfR H 600 y) r
theorem rho_e (r : Nat) (hr : r < 8) : haR (CU H K V W) (hfR (CU H K V W) 600 (y + 1)) (nI r).toNatClampNeg = rho H (y + 1) r := by rw [nI_clamp (by omega)]; rfl
/-- one for each row that is there -/
abbrev rtC (V : Nat → Nat → Int32) (k : Nat) : Int32 := if V 302 (310 + k) < 0 then 0 else 1
theorem c_rowsThere (hS : CS H K (y + 1)) (hk : kk (some (.inl (smI (rtC V) 8))) (CU H K V W)) : CL (d + 1) mX6_rowsThere 0 0 [.inr (.inr (7, y + 1))] (CU H K V W) kk := by
  obtain ⟨r1, r2, r3⟩ := hS.rows
  refine mw T_X6_rowsThere (fun Wm go => go (cut1 4) 60 0 _ _ _ _ _ ?_)
  refine upto (n := 8) (P := fun k => Wm 4 [some (.inr (.inr (7, y + 1))), some (.inl (smI (rtC V) k)), some (.inl (nI k))] [] (CU H K V W) 0 0) (fun k hkn ih => ?_) 0 (Nat.zero_le _)
  refine go (cut1 4) 60 4 _ _ _ _ _ ?_
  refine icg rfl (show (8 : Int32) = nI 8 from rfl) (by omega) (by omega) (fun c => ?_) (fun c => ?_)
  · have e : k = 8 := by omega
    subst e
    exact hk
  · have e := ih c
    rw [← nI_1 k] at e
    have hs : smI (rtC V) (k + 1) = smI (rtC V) k + rtC V k := rfl
    rw [hs] at e
    refine nz r1 (And.intro ?_ ?_)
    · show vp_in (nI k) (haL H (hfR H 600 (y + 1)))
      rw [r3]; exact vp_in_nI c (by omega)
    · refine nz (by rw [rho_e k c]; exact (hS.rw k c).1) ?_
      refine c_isMissing (rho_e k c) (hS.rw k c) (fun z => br1 ?_) (fun z => br0 ?_)
      · rw [show rtC V k = 0 from if_pos z, Int32.add_zero] at e
        exact e
      · rw [show rtC V k = 1 from if_neg z] at e
        exact e
theorem c_count {wh : Int32} (hS : CS H K (y + 1)) (hk : kk (some (.inl (if wh = 0 then smI (rtC V) 8 else if wh = 1 then pI H (hfR H 604 (y + 1)) 102 else if wh = 2 then pI H (hfR H 604 (y + 1)) 103 else if wh = 3 then pI H (hfR H 604 (y + 1)) 104 else if wh = 4 then V 503 10 else if wh = 5 then smI (W 200) 4 else if wh = 6 then V 608 1 else if wh = 7 then V 202 9 else eBAD))) (CU H K V W)) : CL (d + 2) mX6_count 0 0 [.inr (.inr (7, y + 1)), .inl wh] (CU H K V W) kk := by
  refine mw T_X6_count (fun Wm go => go cut0 60 0 _ _ _ _ _ ?_)
  have a1 := hS.now.1.1
  have a2 := hS.now.1.2.1
  refine And.intro (fun w0 => ?_) (fun w0 => And.intro (fun w1 => ?_) (fun w1 => And.intro (fun w2 => ?_) (fun w2 => And.intro (fun w3 => ?_) (fun w3 => And.intro (fun w4 => ?_) (fun w4 => And.intro (fun w5 => ?_) (fun w5 => And.intro (fun w6 => ?_) (fun w6 => And.intro (fun w7 => ?_) (fun w7 => ?_))))))))
  · rw [if_pos w0] at hk
    exact c_rowsThere hS hk
  · rw [if_neg w0, if_pos w1] at hk
    exact nz hS.pl.1.1 (kki hk (CU_fIo hS.pl.1.2) rfl)
  · rw [if_neg w0, if_neg w1, if_pos w2] at hk
    exact nz hS.pl.1.1 (kki hk (CU_fIo hS.pl.1.2) rfl)
  · rw [if_neg w0, if_neg w1, if_neg w2, if_pos w3] at hk
    exact nz hS.pl.1.1 (kki hk (CU_fIo hS.pl.1.2) rfl)
  · rw [if_neg w0, if_neg w1, if_neg w2, if_neg w3, if_pos w4] at hk
    exact nz a1 (kki hk (CU_fI a2 (by decide)) rfl)
  · rw [if_neg w0, if_neg w1, if_neg w2, if_neg w3, if_neg w4, if_pos w5] at hk
    exact nz a1 (c_allLines (CU_e _ _ _ _ _ _) hS.now hk)
  · rw [if_neg w0, if_neg w1, if_neg w2, if_neg w3, if_neg w4, if_neg w5, if_pos w6] at hk
    exact kki hk (CU_fI hS.y1 (by decide)) rfl
  · rw [if_neg w0, if_neg w1, if_neg w2, if_neg w3, if_neg w4, if_neg w5, if_neg w6, if_pos w7] at hk
    exact nz hS.rdr.1.1 (kki hk (CU_fI hS.rdr.1.2 (by decide)) rfl)
  · rw [if_neg w0, if_neg w1, if_neg w2, if_neg w3, if_neg w4, if_neg w5, if_neg w6, if_neg w7] at hk
    exact hk
theorem c_image {ki : Int32} (hS : CS H K (y + 1)) (hn : Pn H (hfR H 604 (y + 1)) n cm) (hb : ¬ inB ki 2 → kk (some (.inl eBAD)) (CU H K V W)) (hs : inB ki 2 → n = 0 → kk (some (.inl eSTATE)) (CU H K V W)) (hg : ∀ k P B, k < 2 → ki = nI k → 0 < n → PEQ H (hfR H 604 (y + 1)) P B → kk (some (.inl 1)) (CU (RP H (haR H (hfR H 609 (y + 1)) k) P B) K (beV V (25 + k) 0) (beW W (25 + k) 0))) : CL (d + 2) mX6_image 0 0 [.inr (.inr (7, y + 1)), .inl ki] (CU H K V W) kk := by
  obtain ⟨j1, j2, j3⟩ := hS.ipl
  refine mw T_X6_image (fun Wm go => go (cut1 34) 60 0 _ _ _ _ _ ?_)
  refine c_isBelow (m := 2) rfl (by omega) (fun q => br1 ?_) (fun q => br0 (hb q))
  refine c_hasCastle hS hn (fun q1 => br1 ?_) (fun q1 => br0 (hs q q1))
  obtain ⟨k, hk, rfl⟩ := inB_of q (by omega)
  have hg := fun P B => hg k P B hk rfl q1
  refine nz j1 (And.intro ?_ ?_)
  · show vp_in (nI k) (haL H (hfR H 609 (y + 1)))
    rw [j3]; exact vp_in_nI hk (by omega)
  have ei : haR (CU H K V W) (hfR (CU H K V W) 609 (y + 1)) (nI k).toNatClampNeg = haR H (hfR H 609 (y + 1)) k := by rw [nI_clamp (by omega)]; rfl
  refine nz (by rw [ei]; exact (hS.ips k hk).1.1) ?_
  refine c_pbecome ei (hS.ips k hk) (CU_e _ _ _ _ _ _) hS.pl0 (by omega) (fun P B hP => ?_)
  have hg := hg P B hP
  have hS' : CS (RP H (haR H (hfR H 609 (y + 1)) k) P B) K (y + 1) := hS
  generalize RP H (haR H (hfR H 609 (y + 1)) k) P B = H1 at *
  obtain ⟨⟨s1, s2, s3⟩, s4⟩ := hS'.ist
  refine go cut0 60 34 _ _ _ _ _ ?_
  refine nz s1 (And.intro ?_ ?_)
  · show vp_in (nI k) (haL H1 (hfR H1 610 (y + 1)))
    rw [s3]; exact vp_in_nI hk (by omega)
  have ei : haR (CU H1 K V W) (hfR (CU H1 K V W) 610 (y + 1)) (nI k).toNatClampNeg = haR H1 (hfR H1 610 (y + 1)) k := by rw [nI_clamp (by omega)]; rfl
  refine nz (by rw [ei]; exact (s4 k hk).1.1) ?_
  exact c_become hS'.k ei (s4 k hk) (CU_e _ _ _ _ _ _) hS'.now hg
theorem c_restore {ki : Int32} {m : Nat → Nat} (hS : CS H K (y + 1)) (hm : ∀ k, k < 2 → pI H (haR H (hfR H 609 (y + 1)) k) 102 = nI (m k) ∧ m k ≤ 8) (hb : ¬ inB ki 2 → kk (some (.inl eBAD)) (CU H K V W)) (hs : ∀ k, k < 2 → ki = nI k → m k = 0 → kk (some (.inl eSTATE)) (CU H K V W)) (hg : ∀ k P B, k < 2 → ki = nI k → 0 < m k → PEQ H (haR H (hfR H 609 (y + 1)) k) P B → kk (some (.inl 1)) (CU (RP H (hfR H 604 (y + 1)) P B) K (up2 (beV V 0 (25 + k)) 608 1 0) (beW W 0 (25 + k)))) : CL (d + 2) mX6_restore 0 0 [.inr (.inr (7, y + 1)), .inl ki] (CU H K V W) kk := by
  obtain ⟨j1, j2, j3⟩ := hS.ipl
  refine mw T_X6_restore (fun Wm go => go (cut1 40) 60 0 _ _ _ _ _ ?_)
  refine c_isBelow (m := 2) rfl (by omega) (fun q => br1 ?_) (fun q => br0 (hb q))
  obtain ⟨k, hk, rfl⟩ := inB_of q (by omega)
  have vi : vp_in (nI k) (haL (CU H K V W) (hfR (CU H K V W) 609 (y + 1))) := by
    show vp_in (nI k) (haL H (hfR H 609 (y + 1)))
    rw [j3]; exact vp_in_nI hk (by omega)
  have ei : haR (CU H K V W) (hfR (CU H K V W) 609 (y + 1)) (nI k).toNatClampNeg = haR H (hfR H 609 (y + 1)) k := by rw [nI_clamp (by omega)]; rfl
  have en : hfI (CU H K V W) 102 (haR (CU H K V W) (hfR (CU H K V W) 609 (y + 1)) (nI k).toNatClampNeg) = nI (m k) := by
    rw [ei, CU_fIo (by rw [(hS.ips k hk).1.2.1]; omega)]; exact (hm k hk).1
  have m8 := (hm k hk).2
  refine nz j1 (And.intro vi ?_)
  refine nz (by rw [ei]; exact (hS.ips k hk).1.1) ?_
  refine And.intro (fun z => ?_) (fun z => ?_)
  rotate_left
  · have z : ¬ nI 1 ≤ hfI (CU H K V W) 102 (haR (CU H K V W) (hfR (CU H K V W) 609 (y + 1)) (nI k).toNatClampNeg) := z
    rw [en] at z
    refine hs k hk rfl ?_
    apply Nat.eq_zero_of_not_pos
    intro w
    exact z ((nI_leI (by omega) (by omega)).mpr w)
  have z : nI 1 ≤ hfI (CU H K V W) 102 (haR (CU H K V W) (hfR (CU H K V W) 609 (y + 1)) (nI k).toNatClampNeg) := z
  rw [en] at z
  have z := (nI_leI (by omega) (by omega)).mp z
  have hg := fun P B => hg k P B hk rfl z
  refine nz j1 (And.intro vi ?_)
  refine nz hS.pl.1.1 ?_
  refine c_pbecome (CU_e _ _ _ _ _ _) hS.pl0 ei (hS.ips k hk) (by omega) (fun P B hP => ?_)
  have hg := hg P B hP
  have hS' : CS (RP H (hfR H 604 (y + 1)) P B) K (y + 1) := hS
  generalize RP H (hfR H 604 (y + 1)) P B = H1 at *
  obtain ⟨⟨s1, s2, s3⟩, s4⟩ := hS'.ist
  refine go cut0 60 40 _ _ _ _ _ ?_
  refine nz s1 (And.intro ?_ ?_)
  · show vp_in (nI k) (haL H1 (hfR H1 610 (y + 1)))
    rw [s3]; exact vp_in_nI hk (by omega)
  have ei : haR (CU H1 K V W) (hfR (CU H1 K V W) 610 (y + 1)) (nI k).toNatClampNeg = haR H1 (hfR H1 610 (y + 1)) k := by rw [nI_clamp (by omega)]; rfl
  refine nz hS'.now.1.1 ?_
  refine c_become hS'.k (CU_e _ _ _ _ _ _) hS'.now ei (s4 k hk) ?_
  exact kki hg rfl (CU_wI hS'.k hS'.y1 (by decide))
end C14
