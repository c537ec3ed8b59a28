/-! ===== pairs: acts ===== -/
section Q9
variable {H : hp} {K : Nat → Nat} {V W : Nat → Nat → Int32} {y x n cm at' am by' tm t : Nat} {I : Nat → Int32} {A : Nat → Nat → Int32} {rs : Nat → Option Nat}
theorem RD.v8 (hR : RD H K V W y x I A n cm at' am by' tm rs t) : V 607 1 = nI at' := (hR.2.2.2.2.2.1.1.1).trans hR.2.1.2.2.1.1
theorem RD.v9 (hR : RD H K V W y x I A n cm at' am by' tm rs t) : V 608 1 = nI am := (hR.2.2.2.2.2.1.1.2.1).trans hR.2.1.2.2.2.1.1
theorem RD.a24 (hR : RD H K V W y x I A n cm at' am by' tm rs t) : at' < 24 := hR.2.1.2.2.1.2
theorem RD.m24 (hR : RD H K V W y x I A n cm at' am by' tm rs t) : am ≤ 24 := hR.2.1.2.2.2.1.2
theorem RD.sm (hR : RD H K V W y x I A n cm at' am by' tm rs t) : SHm H K x := hR.1.2.2.2.1
theorem wrF_ln {a : Nat → Int32} {b c c' : Nat} {t l : Int32} (hb : b < 8) (hc : c < 4) (hc' : c' < 4) : wrF a b c t l (8 + c') = if c' = c then a (8 + c) + l else a (8 + c') := by
  unfold wrF upd
  by_cases e : c' = c
  · subst e
    rw [if_pos rfl, if_pos rfl, if_neg (by omega), if_neg (by omega)]
  · rw [if_neg (by omega), if_neg (by omega), if_neg (by omega), if_neg e]
theorem wrF_12 {a : Nat → Int32} {b c : Nat} {t l : Int32} (hb : b < 8) (hc : c < 4) : wrF a b c t l 12 = a 12 + t := by
  unfold wrF upd
  rw [if_neg (by omega), if_pos rfl, if_neg (by omega)]
theorem b_write {cl li bl : Int32} (hmv : MVal H (x + 1) I A) (hR : RD H K V W (y + 1) (x + 1) I A n cm at' am by' tm rs t) : Both 0 0 mX6_write mX7_write [.inl cl, .inl li, .inl bl] (y + 1) (x + 1) (CU H K V W) (INV (y + 1) (x + 1) (t + 1)) := by
  intro kk1 hk1
  have n8 := hR.n8
  have c4 := hR.c4
  have two : ∀ c b c' b', c < cm → b < n → c' < cm → b' < n → cl = nI c → bl = nI b → cl = nI c' → bl = nI b' → c = c' ∧ b = b' := fun c b c' b' h1 h2 h3 h4 e1 e2 e3 e4 => ⟨nIj (by omega) (by omega) (e1.symm.trans e3), nIj (by omega) (by omega) (e2.symm.trans e4)⟩
  have ok : ∀ c b, c < cm → b < n → cl = nI c → bl = nI b → inR li 1 30 → inB cl cm ∧ inR li 1 30 ∧ inB bl n := fun c b h1 h2 e1 e2 q => ⟨by rw [e1]; exact inB_nI h1 (by omega), q, by rw [e2]; exact inB_nI h2 (by omega)⟩
  refine c_write hR.cs hR.pn hR.v8 hR.a24 hR.v9 hR.m24 (fun q => ro hmv hR hk1 (fun kk2 h2 => m_write hR.ms hR.mi (fun _ => h2 A (EA.rf A)) (fun c b h1 h2 e1 e2 q2 _ => absurd (ok c b h1 h2 e1 e2 q2) q) (fun c b h1 h2 e1 e2 q2 _ => absurd (ok c b h1 h2 e1 e2 q2) q)))
    (fun c b h1 h2 e1 e2 q2 lt => ro hmv hR hk1 (fun kk2 hk2 => m_write hR.ms hR.mi (fun z => absurd (ok c b h1 h2 e1 e2 q2) z) (fun c' b' _ _ _ _ _ _ => hk2 A (EA.rf A)) (fun c' b' g1 g2 e1' e2' _ ge => ?_)))
    (fun c b V2 W2 h1 h2 e1 e2 q2 ge eV eW => ?_)
  · obtain ⟨rfl, rfl⟩ := two c b c' b' h1 h2 g1 g2 e1 e2 e1' e2'
    rw [hR.w1 (by omega), hR.tk h1] at lt
    exact absurd lt ge
  · rw [hR.w1 (by omega), hR.tk h1] at ge
    rw [hR.tk h1] at eV eW
    rw [hR.tk h1]
    refine gen hmv hR.sm hk1 (fun kk2 hk2 => m_write hR.ms hR.mi (fun z => absurd (ok c b h1 h2 e1 e2 q2) z) (fun c' b' g1 g2 e1' e2' _ lt => ?_) (fun c' b' g1 g2 e1' e2' _ _ => ?_))
    · obtain ⟨rfl, rfl⟩ := two c b c' b' h1 h2 g1 g2 e1 e2 e1' e2'
      exact absurd lt ge
    · obtain ⟨rfl, rfl⟩ := two c b c' b' h1 h2 g1 g2 e1 e2 e1' e2'
      refine hk2 _ _ (RD.act hR.t1 (V2 := V2) (W2 := W2) (fun f s hs => ?_) (fun s s1 s2 => ?_) ⟨fun j hj => ?_, fun c' hc' => ?_, ?_, ?_⟩ ?_).toX
      · rw [eV, up2_nx hs]
      · rw [eW, va_up_ne _ _ s2, va_up_ne _ _ s1]
      · rw [eW]
        show (va_up (va_up (_ : Nat → Nat → Int32) 100 _) 200 _ : Nat → Nat → Int32) 100 j = _
        rw [va_up_ne _ _ (by decide), va_up_self, wrF_lo (by omega) hj]
        unfold upd
        rw [hR.w1 (by omega), hR.w1 hj]
      · rw [eW]
        show va_up _ 200 (upd (W 200) c (W 200 c + li)) 200 c' = _
        rw [va_up_self, wrF_ln (by omega) (by omega) hc']
        unfold upd
        rw [hR.w2 (c := c) (by omega), hR.w2 hc']
      · rw [eV]
        show up2 _ 502 10 _ 502 10 = _
        rw [up2_eq, wrF_12 (by omega) (by omega), hR.du]
      · rw [eV]
        show up2 _ 502 10 _ 503 10 = _
        rw [up2_nf (by decide), baV_3, wrF_13 (by omega) (by omega), hR.dy]
      · obtain ⟨w1, w2, w3⟩ := hR.bw
        obtain ⟨l, l1, l2, el⟩ := inR_n (a := 1) (b := 30) (by decide) q2 (by decide)
        obtain ⟨k, hd, dd, hk, hh, -, -, et⟩ := hR.tkn h1
        have et := et l (by omega)
        rw [← el] at et
        have tz := tkZ_le (l := l) (dd := dd) hk.1 hk.2 hh.2 (by omega)
        refine ⟨fun j hj => ?_, fun c' hc' => ?_, ?_⟩
        · rw [wrF_lo (by omega) hj]
          unfold upd
          by_cases e : j = b
          · subst e
            rw [if_pos rfl]
            obtain ⟨q, q1, q3, q4⟩ := w1 j hj
            rw [q3, et] at ge ⊢
            have := (nI_leI (by omega) (by omega)).mp (Int32.not_lt.mp ge)
            rw [pk_sub this]
            exact ⟨_, by omega, rfl, fun z => by omega⟩
          · rw [if_neg e]; exact w1 j hj
        · rw [wrF_ln (by omega) (by omega) hc']
          obtain ⟨q, q1, q3, q4⟩ := w2 c' hc'
          by_cases e : c' = c
          · subst e
            rw [if_pos rfl, q3, el, nI_add]
            exact ⟨_, by omega, rfl, fun z => by omega⟩
          · rw [if_neg e]; exact ⟨q, by omega, q3, q4⟩
        · rw [wrF_13 (by omega) (by omega)]; exact w3
theorem b_rub {li bl : Int32} (hmv : MVal H (x + 1) I A) (hR : RD H K V W (y + 1) (x + 1) I A n cm at' am by' tm rs t) : Both 0 0 mX6_rub mX7_rub [.inl li, .inl bl] (y + 1) (x + 1) (CU H K V W) (INV (y + 1) (x + 1) (t + 1)) := by
  intro kk1 hk1
  have n8 := hR.n8
  have ok : ∀ b, b < n → bl = nI b → inR li 1 60 → inR li 1 60 ∧ inB bl n := fun b h2 e2 q => ⟨q, by rw [e2]; exact inB_nI h2 (by omega)⟩
  have eru : pI H (hfR H 604 (y + 1)) 101 = I 711 := hR.2.2.2.1.1.2.2
  refine c_rub hR.cs hR.pn hR.v8 hR.a24 hR.v9 hR.m24 (fun q => ro hmv hR hk1 (fun kk2 h2 => m_rub hR.ms hR.mi (fun _ => h2 A (EA.rf A)) (fun b h2 e2 q2 _ => absurd (ok b h2 e2 q2) q) (fun b h2 e2 q2 _ => absurd (ok b h2 e2 q2) q)))
    (fun b h2 e2 q2 lt => ro hmv hR hk1 (fun kk2 hk2 => m_rub hR.ms hR.mi (fun z => absurd (ok b h2 e2 q2) z) (fun b' _ _ _ _ => hk2 A (EA.rf A)) (fun b' g2 e2' _ ge => absurd (by rw [hR.du] at lt; exact lt) ge)))
    (fun b V2 W2 h2 e2 q2 ge eV eW => ?_)
  rw [hR.du] at ge
  rw [hR.w1 (by omega), eru] at eW ⊢
  refine gen hmv hR.sm hk1 (fun kk2 hk2 => m_rub hR.ms hR.mi (fun z => absurd (ok b h2 e2 q2) z) (fun b' g2 e2' _ lt => absurd lt ge) (fun b' g2 e2' _ _ => ?_))
  have eb : b = b' := nIj (by omega) (by omega) (e2.symm.trans e2')
  subst eb
  obtain ⟨w1, w2, w3⟩ := hR.bw
  obtain ⟨l, l1, l2, el⟩ := inR_n (a := 1) (b := 60) (by decide) q2 (by decide)
  obtain ⟨u, u1, u2⟩ := hR.wp.2.1
  obtain ⟨q, q1, q3, q4⟩ := w1 b (by omega)
  have hm : l * u ≤ 60 * 10 := Nat.mul_le_mul l2 u1
  have ev : ∃ z, z ≤ 30 ∧ leastI 30 (A 715 b + li * I 711 / 10) = nI z := by
    rw [q3, el, u2, pk_mul, show (10 : Int32) = nI 10 from rfl, pk_div (by omega) (by omega) (by omega), nI_add]
    unfold leastI
    by_cases c : (30 : Int32) < nI (q + l * u / 10)
    · rw [if_pos c]; exact ⟨30, by omega, rfl⟩
    · rw [if_neg c]
      exact ⟨_, (nI_leI (b := 30) (by omega) (by omega)).mp (Int32.not_lt.mp c), rfl⟩
  refine hk2 _ _ (RD.act hR.t1 (V2 := V2) (W2 := W2) (fun f s hs => ?_) (fun s s1 s2 => ?_) ⟨fun j hj => ?_, fun c' hc' => ?_, ?_, ?_⟩ ?_).toX
  · rw [eV, up2_nx hs]
  · rw [eW, va_up_ne _ _ s1]
  · rw [eW]
    show va_up _ 100 (upd (W 100) b _) 100 j = _
    rw [va_up_self]
    unfold upd
    by_cases e : j = b
    · rw [if_pos e, if_pos e]
    · rw [if_neg e, if_neg e, if_neg (by omega)]; exact hR.w1 hj
  · rw [eW]
    show (va_up (_ : Nat → Nat → Int32) 100 _ : Nat → Nat → Int32) 200 c' = _
    rw [va_up_ne _ _ (by decide), beW_l W at' hR.a24]
    unfold upd
    rw [if_neg (by omega), if_neg (by omega)]; exact hR.w2 hc'
  · rw [eV]
    show up2 _ 502 10 _ 502 10 = _
    rw [up2_eq]
    unfold upd
    rw [if_neg (by omega), if_pos rfl, hR.du]
  · rw [eV]
    show up2 _ 502 10 _ 503 10 = _
    rw [up2_nf (by decide), baV_3]
    unfold upd
    rw [if_neg (by omega), if_neg (by omega)]; exact hR.dy
  · refine ⟨fun j hj => ?_, fun c' hc' => ?_, ?_⟩
    · unfold upd
      by_cases e : j = b
      · subst e
        rw [if_pos rfl]
        obtain ⟨z, z1, z2⟩ := ev
        exact ⟨z, z1, z2, fun w => by omega⟩
      · rw [if_neg e, if_neg (by omega)]; exact w1 j hj
    · unfold upd
      rw [if_neg (by omega), if_neg (by omega)]
      obtain ⟨q, q1, q3, q4⟩ := w2 c' hc'
      exact ⟨q, by omega, q3, q4⟩
    · unfold upd
      rw [if_neg (by omega), if_neg (by omega)]; exact w3
theorem b_rain (hmv : MVal H (x + 1) I A) (hR : RD H K V W (y + 1) (x + 1) I A n cm at' am by' tm rs t) : Both 0 0 mX6_rain mX7_rain [] (y + 1) (x + 1) (CU H K V W) (INV (y + 1) (x + 1) (t + 1)) := by
  intro kk1 hk1
  have n8 := hR.n8
  have era : pI H (hfR H 604 (y + 1)) 100 = I 710 := hR.2.2.2.1.1.2.1
  obtain ⟨w1, w2, w3⟩ := hR.bw
  refine c_rain hR.cs hR.pn hR.v8 hR.a24 hR.v9 hR.m24 (fun j hj => ?_) (fun c => ro hmv hR hk1 (fun kk2 h2 => m_rain hR.ms hR.mi (fun _ => h2 A (EA.rf A)) (fun z => absurd c (by omega)))) (fun c => ?_)
  · obtain ⟨r, r1, r9, er⟩ := hR.wp.1 (by omega)
    obtain ⟨q, q1, q3, -⟩ := w1 j (by omega)
    rw [hR.w1 (by omega), era, er, q3]
    exact (rain_ok q1 ⟨r1, r9⟩).1
  · obtain ⟨r, r1, r9, er⟩ := hR.wp.1 c
    have ecg := rainF_cg (ra := I 710) (k := n) (n := n) n8 (fun j hj => hR.w1 hj) (fun j hj => hR.on hj)
    rw [era]
    have est : stP (pA H (hfR H 604 (y + 1)) 106) (posB (rainF (W 100) (pA H (hfR H 604 (y + 1)) 106) (I 710) n n)) n = stP (A 712) (posB (rainF (A 715) (A 712) (I 710) n n)) n := stP_congr (fun k hk => ⟨hR.on (by omega), by unfold posB; rw [ecg k (by omega)]⟩)
    rw [est]
    refine gen hmv hR.sm hk1 (fun kk2 hk2 => m_rain hR.ms hR.mi (fun z => absurd z (by omega)) (fun _ => ?_))
    refine hk2 _ _ (RD.act hR.t1 (fun f s hs => rfl) (fun s s1 s2 => ?_) ⟨fun j hj => ?_, fun c' hc' => ?_, ?_, ?_⟩ ?_).toX
    · rw [va_up_ne _ _ s1]
    · show (va_up (_ : Nat → Nat → Int32) 100 _ : Nat → Nat → Int32) 100 j = _
      rw [va_up_self]; exact ecg j hj
    · show (va_up (_ : Nat → Nat → Int32) 100 _ : Nat → Nat → Int32) 200 c' = _
      rw [va_up_ne _ _ (by decide), beW_l W at' hR.a24]
      unfold rainF
      rw [if_neg (by omega)]; exact hR.w2 hc'
    · show baV V at' am 502 10 = _
      rw [baV_2]
      unfold rainF
      rw [if_neg (by omega)]; exact hR.du
    · show baV V at' am 503 10 = _
      rw [baV_3]
      unfold rainF
      rw [if_neg (by omega)]; exact hR.dy
    · rw [er]
      exact (hR.t1.bw).rain n8 ⟨r1, r9⟩
theorem b_days {nd : Int32} (hmv : MVal H (x + 1) I A) (hR : RD H K V W (y + 1) (x + 1) I A n cm at' am by' tm rs t) : Both 0 0 mX6_days mX7_days [.inl nd] (y + 1) (x + 1) (CU H K V W) (INV (y + 1) (x + 1) (t + 1)) := by
  intro kk1 hk1
  refine c_days hR.cs hR.pn hR.v8 hR.a24 hR.v9 hR.m24 (fun c => ro hmv hR hk1 (fun kk2 h2 => m_days hR.ms hR.mi (fun _ => h2 A (EA.rf A)) (fun z _ => absurd c (by omega)) (fun z _ _ => absurd c (by omega)) (fun k z _ _ _ _ => absurd c (by omega)))) (fun c q => ro hmv hR hk1 (fun kk2 h2 => m_days hR.ms hR.mi (fun z => absurd z (by omega)) (fun _ _ => h2 A (EA.rf A)) (fun _ z _ => absurd z q) (fun k _ e k1 k2 _ => absurd (by rw [e]; exact ⟨(nI_leI (a := 1) (by omega) (by omega)).mpr k1, (nI_leI (b := 24) (by omega) (by omega)).mpr k2⟩) q))) (fun c q f => ro hmv hR hk1 (fun kk2 h2 => m_days hR.ms hR.mi (fun z => absurd z (by omega)) (fun _ z => absurd q z) (fun _ _ _ => h2 A (EA.rf A)) (fun k _ e k1 k2 z => absurd (by rw [hR.dy] at f; exact f) z))) (fun k c e k1 k2 nf => ?_)
  rw [hR.dy] at nf
  obtain ⟨dd, dd9, edd⟩ := hR.bw.2.2
  have hle : dd + k ≤ 999 := by
    rw [edd, e, nI_add] at nf
    exact (nI_leI (b := 999) (by omega) (by omega)).mp (Int32.not_lt.mp nf)
  have steps : ∀ j, j ≤ k → RD H K (dyV V at' am j) (dyW W at' j) (y + 1) (x + 1) (dayI I at' j) (dayA A at' j) n cm ((at' + j) % 24) (amK am j) by' tm rs (t + 1) ∧ dayA A at' j 715 13 = nI (dd + j) := by
    intro j
    induction j with
    | zero =>
      intro _
      have : (at' + 0) % 24 = at' := Nat.mod_eq_of_lt hR.a24
      rw [this]
      exact ⟨hR.t1, edd⟩
    | succ j ih =>
      intro hj
      obtain ⟨ih, ed⟩ := ih (by omega)
      have e15 : dayA A at' (j + 1) 715 = upd (dayA A at' j 715) 13 (dayA A at' j 715 13 + 1) := va_up_self _ _ _
      refine ⟨?_, ?_⟩
      · have e1 : ((at' + j) % 24 + 1) % 24 = (at' + (j + 1)) % 24 := by omega
        have q := RD.act ih (V2 := dyV V at' am (j + 1)) (W2 := dyW W at' (j + 1)) (a := upd (dayA A at' j 715) 13 (dayA A at' j 715 13 + 1)) (fun f s hs => up2_nx hs) (fun s _ _ => rfl) ⟨fun i hi => ?_, fun c' hc' => ?_, ?_, ?_⟩ ?_
        · rw [e1] at q
          exact q
        · show beW (dyW W at' j) (1 + (at' + j) % 24) 0 100 i = _
          rw [beW_c _ _ (Nat.mod_lt _ (by decide))]
          unfold upd
          rw [if_neg (by omega)]; exact ih.w1 hi
        · show beW (dyW W at' j) (1 + (at' + j) % 24) 0 200 c' = _
          rw [beW_l _ _ (Nat.mod_lt _ (by decide))]
          unfold upd
          rw [if_neg (by omega)]; exact ih.w2 hc'
        · show up2 (baV (dyV V at' am j) ((at' + j) % 24) (amK am j)) 503 10 _ 502 10 = _
          rw [up2_nf (by decide), baV_2]
          unfold upd
          rw [if_neg (by omega)]; exact ih.du
        · show up2 (baV (dyV V at' am j) ((at' + j) % 24) (amK am j)) 503 10 (dyV V at' am j 503 10 + 1) 503 10 = _
          rw [up2_eq]
          unfold upd
          rw [if_pos rfl, ih.dy]
        · obtain ⟨w1, w2, w3⟩ := ih.bw
          refine ⟨fun i hi => ?_, fun c' hc' => ?_, ?_⟩
          · unfold upd
            rw [if_neg (by omega)]; exact w1 i hi
          · unfold upd
            rw [if_neg (by omega)]; exact w2 c' hc'
          · unfold upd
            rw [if_pos rfl, ed, nI_1]
            exact ⟨_, by omega, rfl⟩
      · rw [e15]
        unfold upd
        rw [if_pos rfl, ed, nI_1]
        rfl
  have fin := (steps k (Nat.le_refl k)).1
  rw [fin.dy]
  refine gen hmv hR.sm hk1 (fun kk2 hk2 => m_days hR.ms hR.mi (fun z => absurd z (by omega)) (fun _ z => absurd (by rw [e]; exact ⟨(nI_leI (a := 1) (by omega) (by omega)).mpr k1, (nI_leI (b := 24) (by omega) (by omega)).mpr k2⟩) z) (fun _ _ z => absurd z nf) (fun k' _ e' _ _ _ => ?_))
  have ek : k = k' := nIj (by omega) (by omega) (e.symm.trans e')
  subst ek
  exact hk2 _ _ fin.toX
end Q9
