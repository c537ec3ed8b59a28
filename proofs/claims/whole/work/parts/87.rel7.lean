/-! ===== pairs: undo, feed, asks ===== -/
section Q10
variable {H : hp} {K : Nat → Nat} {V W : Nat → Nat → Int32} {y x n cm at' am by' tm t : Nat} {I : Nat → Int32} {A : Nat → Nat → Int32} {rs : Nat → Option Nat}
theorem RD.misc {V2 W2 : Nat → Nat → Int32} {I2 : Nat → Int32} {A2 : Nat → Nat → Int32} {by2 tm2 : Nat} {rs2 : Nat → Option Nat} (hR : RD H K V W y x I A n cm at' am by' tm rs t) (hsh : SHP H K y x n cm) (hv : ∀ s, s < 27 → V2 502 (10 + s) = V 502 (10 + s) ∧ V2 503 (10 + s) = V 503 (10 + s)) (hw : ∀ s, s < 27 → W2 (100 + s) = W (100 + s) ∧ W2 (200 + s) = W (200 + s)) (hi : ∀ k, (707 ≤ k ∧ k ≤ 711) ∨ k = 727 ∨ k = 728 → I2 k = I k) (ha : ∀ f, (712 ≤ f ∧ f ≤ 715) ∨ f = 729 ∨ (731 ≤ f ∧ f ≤ 736) → A2 f = A f) (hb : I2 704 = nI by2 ∧ by2 ≤ 120) (ht : I2 737 = nI tm2 ∧ tm2 ≤ 16) (hrin : RIn A2 rs2) (hm : MISC V2 W2 I2 A2 tm2 rs2) : RD H K V2 W2 y x I2 A2 n cm at' am by2 tm2 rs2 t := by
  obtain ⟨h1, ⟨i1, i2, i3, i4, i5, i6⟩, h3, h4, ⟨s0, s1⟩, -, h7, b1, b2, b3⟩ := hR
  have q : ∀ s a, s < 27 → eqS V W s a → eqS V2 W2 s a := fun s a hs h => h.congr (hw s hs).1 (hw s hs).2 (hv s hs).1 (hv s hs).2 (fun _ _ => rfl)
  refine ⟨hsh, ⟨?_, ?_, ?_, ?_, hb, ht⟩, hrin, ?_, ⟨?_, fun i hi => ?_⟩, hm, fun k hk => ?_, ?_, ?_, ?_⟩
  · rw [hi 707 (by decide)]; exact i1
  · rw [hi 709 (by decide)]; exact i2
  · rw [hi 728 (by decide)]; exact i3
  · rw [hi 727 (by decide)]; exact i4
  · rw [hi 708 (by decide), hi 710 (by decide), hi 711 (by decide), ha 712 (by decide), ha 714 (by decide), ha 713 (by decide)]; exact h4
  · rw [ha 715 (by decide)]; exact q 0 _ (by omega) s0
  · rw [ha 729 (by decide)]; exact q (1 + i) _ (by omega) (s1 i hi)
  · rw [ha 731 (by decide)]
    refine ⟨(h7 k hk).1, fun hi => ?_⟩
    obtain ⟨n', cm', x1, x2, x3, x4, x5, x6, x7⟩ := (h7 k hk).2 hi
    unfold IMk
    rw [ha 732 (by decide), ha 733 (by decide), ha 734 (by decide), ha 735 (by decide), ha 736 (by decide)]
    exact ⟨n', cm', x1, x2, x3, x4, q (25 + k) _ (by omega) x5, x6, x7⟩
  · rw [ha 715 (by decide)]; exact b1
  · rw [ha 729 (by decide)]; exact b2
  · rw [hi 710 (by decide), hi 711 (by decide), ha 714 (by decide), ha 713 (by decide)]; exact b3
theorem RD.stat {v : Int32} (hR : RD H K V W y x I A n cm at' am by' tm rs t) : RD H K (up2 V 603 1 v) W y x (upd I 700 v) A n cm at' am by' tm rs t := by
  obtain ⟨⟨m1, m2, m3, m4, m5, m6⟩, m7, m8, m8b, m9⟩ := hR.2.2.2.2.2.1
  refine RD.misc hR hR.1 (fun s hs => ⟨up2_nf (by decide), up2_nf (by decide)⟩) (fun s hs => ⟨rfl, rfl⟩) (fun k hk => if_neg (by omega)) (fun f hf => rfl) hR.2.1.2.2.2.2.1 hR.2.1.2.2.2.2.2 hR.2.2.1 ⟨⟨m1, m2, m3, m4, ?_, m6⟩, m7, m8, fun r hr => ?_, fun r hr s hs => ?_⟩
  · rw [up2_eq]; rfl
  · rw [up2_nf (by decide)]; exact m8b r hr
  · rw [up2_nf (by decide)]; exact m9 r hr s hs
theorem b_undo (hmv : MVal H (x + 1) I A) (hR : RD H K V W (y + 1) (x + 1) I A n cm at' am by' tm rs t) : Both 0 0 mX6_undo mX7_undo [] (y + 1) (x + 1) (CU H K V W) (INV (y + 1) (x + 1) (t + 1)) := by
  intro kk1 hk1
  refine c_undo hR.cs hR.v8 hR.a24 hR.v9 hR.m24 (fun c => ro hmv hR hk1 (fun kk2 h2 => m_undo hR.ms hR.mi (fun _ => h2 A (EA.rf A)) (fun z => absurd c (by omega)))) (fun c => gen hmv hR.sm hk1 (fun kk2 hk2 => m_undo hR.ms hR.mi (fun z => absurd z (by omega)) (fun _ => hk2 _ _ ?_)))
  have a24 := hR.a24
  have m24 := hR.m24
  obtain ⟨h1, ⟨i1, i2, i3, i4, i5, i6⟩, h3, h4, ⟨s0, s1⟩, ⟨⟨m1, m2, m3, m4, m5, m6⟩, m7, m8, m8b, m9⟩, h7, b1, b2, b3⟩ := hR.t1
  have hi24 : (at' + 23) % 24 < 24 := Nat.mod_lt _ (by decide)
  have eA : ∀ f, f ≠ 715 → va_up A 715 (va_cpy (A 729) (A 715) (14 * ((at' + 23) % 24)) 0 14) f = A f := fun f hf => va_up_ne _ _ hf
  have cp : ∀ j, j < 14 → va_cpy (A 729) (A 715) (14 * ((at' + 23) % 24)) 0 14 j = A 729 (14 * ((at' + 23) % 24) + j) := by
    intro j hj
    unfold va_cpy
    rw [if_pos (by omega)]
    congr 1
  have q : ∀ s a, s ≠ 0 → s < 27 → eqS V W s a → eqS (up2 (beV (up2 V 607 1 (nI ((at' + 23) % 24))) 0 (1 + (at' + 23) % 24)) 608 1 (nI (am - 1))) (beW W 0 (1 + (at' + 23) % 24)) s a := by
    intro s a hs0 hs h
    refine h.congr (beW_ne (by omega) (by omega)) (beW_ne (by omega) (by omega)) ?_ ?_ (fun _ _ => rfl)
    · rw [up2_nf (by decide), beV_ne (by omega), up2_nf (by decide)]
    · rw [up2_nf (by decide), beV_ne (by omega), up2_nf (by decide)]
  refine ⟨n, cm, (at' + 23) % 24, am - 1, by', tm, rs, h1, ⟨i1, i2, ⟨rfl, hi24⟩, ⟨rfl, by omega⟩, i5, i6⟩, ?_, ?_, ⟨?_, fun i hi => ?_⟩, ⟨⟨?_, ?_, ?_, ?_, ?_, ?_⟩, ?_, fun j hj => ?_, fun r hr => ?_, fun r hr s hs => ?_⟩, fun k hk => ?_, ?_, fun k hk => ?_, ?_⟩
  · unfold RIn; rw [eA 701 (by decide)]; exact h3
  · rw [eA 712 (by decide), eA 714 (by decide), eA 713 (by decide)]; exact h4
  · have e := eqS.be (V := up2 V 607 1 (nI ((at' + 23) % 24))) (W := W) (u := 0) (s := 1 + (at' + 23) % 24) (a := fun j => A 729 (14 * ((at' + 23) % 24) + j)) (b := va_up A 715 (va_cpy (A 729) (A 715) (14 * ((at' + 23) % 24)) 0 14) 715) ((s1 _ hi24).congr rfl rfl (up2_nf (by decide)) (up2_nf (by decide)) (fun _ _ => rfl)) (fun j hj => by rw [va_up_self]; exact cp j hj)
    exact e.congr rfl rfl (up2_nf (by decide)) (up2_nf (by decide)) (fun _ _ => rfl)
  · rw [eA 729 (by decide)]
    exact q (1 + i) _ (by omega) (by omega) (s1 i hi)
  · rw [up2_nf (by decide), beV_ne (by decide), up2_eq]; rfl
  · rw [up2_eq]; rfl
  · rw [up2_nf (by decide), beV_ne (by decide), up2_nf (by decide)]; exact m3
  · rw [up2_nf (by decide), beV_ne (by decide), up2_nf (by decide)]; exact m4
  · rw [up2_nf (by decide), beV_ne (by decide), up2_nf (by decide)]; exact m5
  · rw [up2_nf (by decide), beV_ne (by decide), up2_nf (by decide)]; exact m6
  · rw [beW_ne (by decide) (by decide), eA 705 (by decide)]; exact m7
  · rw [beW_ne (by decide) (by decide), eA 738 (by decide)]; exact m8 j hj
  · rw [up2_nf (by decide), beV_ne (by omega), up2_nf (by decide), eA 701 (by decide)]; exact m8b r hr
  · rw [up2_nf (by decide), beV_ne (by omega), up2_nf (by decide), beW_ne (by omega) (by omega), eA 702 (by decide), eA 703 (by decide)]
    exact m9 r hr s hs
  · rw [eA 731 (by decide)]
    refine ⟨(h7 k hk).1, fun hi => ?_⟩
    obtain ⟨n', cm', x1, x2, x3, x4, x5, x6, x7⟩ := (h7 k hk).2 hi
    unfold IMk
    rw [eA 732 (by decide), eA 733 (by decide), eA 734 (by decide), eA 735 (by decide), eA 736 (by decide)]
    exact ⟨n', cm', x1, x2, x3, x4, q (25 + k) _ (by omega) (by omega) x5, x6, x7⟩
  · rw [va_up_self]
    exact (b2 0 c).congr (fun j hj => by rw [cp j hj]; rfl)
  · rw [eA 729 (by decide)]
    have e0 : ((at' + 23) % 24 + 23 - k) % 24 = (at' + 23 - (k + 1)) % 24 := by omega
    rw [e0]
    exact b2 (k + 1) (by omega)
  · rw [eA 714 (by decide), eA 713 (by decide)]; exact b3
theorem b_feed {v : Int32} (hmv : MVal H (x + 1) I A) (hR : RD H K V W (y + 1) (x + 1) I A n cm at' am by' tm rs t) : Both 0 0 mX6_feed mX7_feed [.inl v] (y + 1) (x + 1) (CU H K V W) (INV (y + 1) (x + 1) (t + 1)) := by
  intro kk1 hk1
  have hb := hR.2.1.2.2.2.2.1
  obtain ⟨⟨m1, m2, m3, m4, m5, m6⟩, m7, m8, m8b, m9⟩ := hR.2.2.2.2.2.1
  refine c_feed hR.cs (m3.trans hb.1) hb.2 (fun q => ro hmv hR hk1 (fun kk2 h2 => m_feed hR.ms hR.mi (fun _ => h2 A (EA.rf A)) (fun z _ => absurd z q) (fun z _ => absurd z q))) (fun q e => ro hmv hR hk1 (fun kk2 h2 => m_feed hR.ms hR.mi (fun z => absurd q z) (fun _ _ => h2 A (EA.rf A)) (fun _ z => absurd e (by omega)))) (fun q e => gen hmv hR.sm hk1 (fun kk2 hk2 => m_feed hR.ms hR.mi (fun z => absurd q z) (fun _ z => absurd z (by omega)) (fun _ _ => hk2 _ _ ?_)))
  refine (RD.misc (V2 := up2 V 202 9 (nI (by' + 1))) (W2 := va_up W 4 (upd (W 4) by' v)) (I2 := upd I 704 (nI (by' + 1))) (A2 := va_up A 705 (upd (A 705) by' v)) (by2 := by' + 1) (tm2 := tm) (rs2 := rs) hR.t1 hR.1 (fun s hs => ⟨up2_nf (by decide), up2_nf (by decide)⟩) (fun s hs => ⟨va_up_ne _ _ (by omega), va_up_ne _ _ (by omega)⟩) (fun k hk => if_neg (by omega)) (fun f hf => va_up_ne _ _ (by omega)) ⟨rfl, by omega⟩ hR.2.1.2.2.2.2.2 ?_ ⟨⟨?_, ?_, ?_, ?_, ?_, ?_⟩, ?_, fun j hj => ?_, fun r hr => ?_, fun r hr s hs => ?_⟩).toX
  · unfold RIn; rw [va_up_ne _ _ (by decide)]; exact hR.2.2.1
  · rw [up2_nf (by decide)]; exact m1
  · rw [up2_nf (by decide)]; exact m2
  · rw [up2_eq]; rfl
  · rw [up2_nf (by decide)]; exact m4
  · rw [up2_nf (by decide)]; exact m5
  · rw [up2_nf (by decide)]; exact m6
  · rw [va_up_self, va_up_self, m7]
  · rw [va_up_ne _ _ (by decide), va_up_ne _ _ (by decide)]; exact m8 j hj
  · rw [up2_nf (by decide), va_up_ne A _ (show (701 : Nat) ≠ 705 by decide)]; exact m8b r hr
  · rw [up2_nf (by decide), va_up_ne A _ (show (702 : Nat) ≠ 705 by decide), va_up_ne A _ (show (703 : Nat) ≠ 705 by decide), va_up_ne W _ (show 300 + r ≠ 4 by omega)]
    exact m9 r hr s hs
theorem isTo_ok : ∀ k, k < 5 → ∀ j, j < 6 → ((isTo (k + 1) >>> (nI j &&& 31)) &&& 1 = 0 ↔ ¬ isOfP (nI (k + 1)) (nI j)) := by decide +kernel
theorem b_as {cl kd : Int32} (hmv : MVal H (x + 1) I A) (hR : RD H K V W (y + 1) (x + 1) I A n cm at' am by' tm rs t) : Both 0 0 mX6_as mX7_as [.inl cl, .inl kd] (y + 1) (x + 1) (CU H K V W) (INV (y + 1) (x + 1) (t + 1)) := by
  intro kk1 hk1
  have c4 := hR.c4
  have h05 : inR kd 0 5 ↔ inB kd 6 := inR_B (n := 6) (by decide)
  have hkd : ∀ c, c < cm → ∃ k, 1 ≤ k ∧ k ≤ 5 ∧ pA H (hfR H 604 (y + 1)) 108 c = nI k := fun c hc => by
    rw [hR.ki hc]; exact (hR.wp.2.2 c hc).2.1
  have ok : ∀ c k, c < cm → k < 6 → pA H (hfR H 604 (y + 1)) 108 c = nI k → inB kd 6 → ((isTo k >>> (kd &&& 31)) &&& 1 = 0 ↔ ¬ isOfP (A 714 c) kd) := by
    intro c k hc hk e q
    obtain ⟨k', k1, k5, ek⟩ := hkd c hc
    have : k = k' := nIj (by omega) (by omega) (e.symm.trans ek)
    subst this
    obtain ⟨j, hj, ej⟩ := inB_of q (by omega)
    rw [← hR.ki hc, e, ej]
    have q0 := isTo_ok (k - 1) (by omega) j hj
    rw [show k - 1 + 1 = k by omega] at q0
    exact q0
  refine c_as hR.cs hR.pn hR.stt hkd (fun q => ro hmv hR hk1 (fun kk2 h2 => m_as hR.ms hR.mi (fun _ => h2 A (EA.rf A)) (fun c hc e w _ => absurd ⟨by rw [e]; exact inB_nI hc (by omega), h05.mp w⟩ q) (fun c hc e w _ => absurd ⟨by rw [e]; exact inB_nI hc (by omega), h05.mp w⟩ q)))
    (fun c k hc e q hk ek z => gen hmv hR.sm hk1 (fun kk2 hk2 => m_as hR.ms hR.mi (fun w => absurd ⟨by rw [e]; exact inB_nI hc (by omega), h05.mpr q⟩ w) (fun c' hc' e' _ w => ?_) (fun c' hc' e' _ w => hk2 _ _ hR.t1.stat.toX)))
    (fun c k hc e q hk ek z => gen hmv hR.sm hk1 (fun kk2 hk2 => m_as hR.ms hR.mi (fun w => absurd ⟨by rw [e]; exact inB_nI hc (by omega), h05.mpr q⟩ w) (fun c' hc' e' _ w => ?_) (fun c' hc' e' _ w => ?_)))
  · have ec : c = c' := nIj (by omega) (by omega) (e.symm.trans e')
    subst ec
    exact absurd w ((ok c k hc hk ek q).mp z)
  · have ec : c = c' := nIj (by omega) (by omega) (e.symm.trans e')
    subst ec
    exact hk2 _ _ hR.t1.stat.toX
  · have ec : c = c' := nIj (by omega) (by omega) (e.symm.trans e')
    subst ec
    exact absurd ((ok c k hc hk ek q).mpr w) z
theorem wrL_at {t1 t2 : Nat → Int32} {bs : List Int32} {j : Nat} (h : j < bs.length) : wrL t1 bs j = wrL t2 bs j := by
  unfold wrL
  rw [List.getElem?_eq_getElem h]
  rfl
theorem b_ask {cl wh : Int32} (hmv : MVal H (x + 1) I A) (hR : RD H K V W (y + 1) (x + 1) I A n cm at' am by' tm rs t) : Both 0 0 mX6_ask mX7_ask [.inl cl, .inl wh] (y + 1) (x + 1) (CU H K V W) (INV (y + 1) (x + 1) (t + 1)) := by
  intro kk1 hk1
  have c4 := hR.c4
  have hkd : ∀ c, c < cm → ∃ k, 1 ≤ k ∧ k ≤ 5 ∧ pA H (hfR H 604 (y + 1)) 108 c = nI k := fun c hc => by
    rw [hR.ki hc]; exact (hR.wp.2.2 c hc).2.1
  obtain ⟨⟨m1, m2, m3, m4, m5, m6⟩, m7, m8, m8b, m9⟩ := hR.2.2.2.2.2.1
  refine c_ask hR.cs hR.pn hR.stt hkd (fun q => ro hmv hR hk1 (fun kk2 h2 => m_ask hR.ms hR.mi (fun _ => h2 A (EA.rf A)) (fun c hc e w => absurd ⟨by rw [e]; exact inB_nI hc (by omega), inR2.mp w⟩ q))) (fun c V2 hc e q eV => ?_)
  rw [hR.ki hc, hR.ha hc, hR.w2 (by omega)]
  refine gen hmv hR.sm hk1 (fun kk2 hk2 => m_ask hR.ms hR.mi (fun w => absurd ⟨by rw [e]; exact inB_nI hc (by omega), inR2.mpr q⟩ w) (fun c' hc' e' _ => ?_))
  have ec : c = c' := nIj (by omega) (by omega) (e.symm.trans e')
  subst ec
  obtain ⟨k, k1, k5, ek⟩ := (hR.wp.2.2 c hc).2.1
  have hl : (if wh = 0 then szL (A 714 c) else mkL (A 714 c)).length ≤ 16 := by
    rw [ek]
    have : k = 1 ∨ k = 2 ∨ k = 3 ∨ k = 4 ∨ k = 5 := by omega
    rcases this with rfl | rfl | rfl | rfl | rfl <;> (split <;> decide)
  generalize (if wh = 0 then szL (A 714 c) else mkL (A 714 c)) = L at *
  have ev : ∀ f s, s ≠ 3 → up2 V2 1 3 (nI L.length) f s = V f s := by
    intro f s hs
    rw [up2_nx hs, eV]
    show up2 (up2 (up2 (up2 (up2 V 1 3 0) 2 3 _) 3 3 _) 4 3 _) 5 3 _ f s = _
    rw [up2_nx hs, up2_nx hs, up2_nx hs, up2_nx hs, up2_nx hs]
  refine hk2 _ _ (RD.misc (V2 := up2 V2 1 3 (nI L.length)) (W2 := va_up W 5 (wrL (W 5) L)) (I2 := upd I 737 (nI L.length)) (A2 := va_up A 738 (wrL (A 738) L)) (by2 := by') (tm2 := L.length) (rs2 := rs) hR.t1 hR.1 (fun s hs => ⟨ev _ _ (by omega), ev _ _ (by omega)⟩) (fun s hs => ⟨va_up_ne _ _ (by omega), va_up_ne _ _ (by omega)⟩) (fun k hk => if_neg (by omega)) (fun f hf => va_up_ne _ _ (by omega)) hR.2.1.2.2.2.2.1 ⟨rfl, hl⟩ ?_ ⟨⟨?_, ?_, ?_, ?_, ?_, ?_⟩, ?_, fun j hj => ?_, fun r hr => ?_, fun r hr s hs => ?_⟩).toX
  · unfold RIn; rw [va_up_ne _ _ (by decide)]; exact hR.2.2.1
  · rw [ev _ _ (by decide)]; exact m1
  · rw [ev _ _ (by decide)]; exact m2
  · rw [ev _ _ (by decide)]; exact m3
  · rw [ev _ _ (by decide)]; exact m4
  · rw [ev _ _ (by decide)]; exact m5
  · rw [up2_eq]; rfl
  · rw [va_up_ne _ _ (by decide), va_up_ne _ _ (by decide)]; exact m7
  · rw [va_up_self, va_up_self]; exact wrL_at hj
  · rw [ev _ _ (by omega), va_up_ne A _ (show (701 : Nat) ≠ 738 by decide)]; exact m8b r hr
  · rw [ev _ _ (by omega), va_up_ne A _ (show (702 : Nat) ≠ 738 by decide), va_up_ne A _ (show (703 : Nat) ≠ 738 by decide), va_up_ne W _ (show 300 + r ≠ 5 by omega)]
    exact m9 r hr s hs
end Q10
