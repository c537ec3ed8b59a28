/-! ===== pairs: draws; what a castle's letters say, both ways ===== -/
section Q16
variable {H : hp} {K : Nat → Nat} {V W : Nat → Nat → Int32} {y x n cm at' am by' tm t : Nat} {I : Nat → Int32} {A : Nat → Nat → Int32} {rs : Nat → Option Nat}
/-- both sides behind k draws -/
def DRk (A : Nat → Nat → Int32) (T : Nat × (Nat → Int32) × Int32 × Int32) (S : Nat × (Nat → Int32)) (dd : Nat) : Prop := T.1 = S.1 ∧ (∀ j, j < 8 → T.2.1 j = S.2 j ∧ ∃ c, c ≤ 30 ∧ T.2.1 j = nI c) ∧ S.2 12 = A 715 12 + T.2.2.1 ∧ T.2.2.2 = S.2 13 ∧ S.2 13 = nI dd
theorem drk_s {on ki ha c0 t0 : Nat → Int32} {dy0 ra : Int32} {r seed k dd : Nat} (n1 : 0 < n) (hn : n ≤ 8) (hc4 : cm ≤ 4) (ho : ∀ j, j < 8 → on j = A 712 j) (hk : ∀ c, c < cm → ki c = A 714 c ∧ ha c = A 713 c) (hw : ∀ c, c < cm → (∃ k, 1 ≤ k ∧ k ≤ 5 ∧ A 714 c = nI k) ∧ ∃ hd, 1 ≤ hd ∧ hd ≤ 9 ∧ A 713 c = nI hd) (er : ra = nI r) (hr : 1 ≤ r ∧ r ≤ 9) (d9 : dd < 2 ^ 19) (h : DRk A (deS on ki ha ra n cm seed c0 dy0 k) (drS A ra n cm seed t0 k) dd) : (∀ j, j < n → rcP ra ((dwS ki ha n cm (drX (deS on ki ha ra n cm seed c0 dy0 k).1) (deS on ki ha ra n cm seed c0 dy0 k).2.1 (deS on ki ha ra n cm seed c0 dy0 k).2.2.1 (deS on ki ha ra n cm seed c0 dy0 k).2.2.2).1 j)) ∧ DRk A (deS on ki ha ra n cm seed c0 dy0 (k + 1)) (drS A ra n cm seed t0 (k + 1)) (dd + 1) := by
  have e1 : deS on ki ha ra n cm seed c0 dy0 (k + 1) = (drX (deS on ki ha ra n cm seed c0 dy0 k).1, deR on ra n (drX (deS on ki ha ra n cm seed c0 dy0 k).1) (dwS ki ha n cm (drX (deS on ki ha ra n cm seed c0 dy0 k).1) (deS on ki ha ra n cm seed c0 dy0 k).2.1 (deS on ki ha ra n cm seed c0 dy0 k).2.2.1 (deS on ki ha ra n cm seed c0 dy0 k).2.2.2).1, (dwS ki ha n cm (drX (deS on ki ha ra n cm seed c0 dy0 k).1) (deS on ki ha ra n cm seed c0 dy0 k).2.1 (deS on ki ha ra n cm seed c0 dy0 k).2.2.1 (deS on ki ha ra n cm seed c0 dy0 k).2.2.2).2, (deS on ki ha ra n cm seed c0 dy0 k).2.2.2 + 1) := rfl
  have e2 : drS A ra n cm seed t0 (k + 1) = (drX (drS A ra n cm seed t0 k).1, drD (drR A ra n (drX (drS A ra n cm seed t0 k).1) (drW A n cm (drX (drS A ra n cm seed t0 k).1) (drS A ra n cm seed t0 k).2))) := rfl
  rw [e1, e2]
  generalize deS on ki ha ra n cm seed c0 dy0 k = T at *
  generalize drS A ra n cm seed t0 k = S at *
  obtain ⟨X, c, du, dy⟩ := T
  obtain ⟨X', u⟩ := S
  obtain ⟨h1, h2, h3, h4, h5⟩ := h
  dsimp only at h1 h2 h3 h4 h5 ⊢
  subst h1
  generalize drX X = Y at *
  have hnm : Y % n < n := Nat.mod_lt _ n1
  -- one writing
  have wr : (∀ j, j < 8 → (dwS ki ha n cm Y c du dy).1 j = drW A n cm Y u j ∧ ∃ q, q ≤ 30 ∧ (dwS ki ha n cm Y c du dy).1 j = nI q) ∧ drW A n cm Y u 12 = A 715 12 + (dwS ki ha n cm Y c du dy).2 ∧ drW A n cm Y u 13 = u 13 := by
    unfold dwS drW
    by_cases cc : cm = 0
    · rw [if_pos cc, if_pos cc]
      exact ⟨h2, h3, rfl⟩
    · rw [if_neg cc, if_neg cc]
      have hcm : Y % cm < cm := Nat.mod_lt _ (by omega)
      have ek := hk _ hcm
      obtain ⟨⟨k', k1, k5, ek'⟩, ⟨hd, d1, d9', ed⟩⟩ := hw _ hcm
      have etk : dwC ki ha cm Y dy = tkB (A 714 (Y % cm)) (A 713 (Y % cm)) (nI (Y % 5 + 1)) (u 13) := by
        unfold dwC
        rw [ek.1, ek.2, h4]
      rw [etk]
      have ez : tkB (A 714 (Y % cm)) (A 713 (Y % cm)) (nI (Y % 5 + 1)) (u 13) = nI (tkZ k' hd (Y % 5 + 1) dd) := by
        rw [ek', ed, h5]
        exact tkB_n k1 k5 d9' (by omega) (by omega)
      have z2 := tkZ_le (l := Y % 5 + 1) (dd := dd) k1 k5 d9' (by omega)
      rw [ez]
      generalize tkZ k' hd (Y % 5 + 1) dd = z at *
      obtain ⟨eb, q, q1, q2⟩ := h2 (Y % n) (by omega)
      rw [← eb, q2]
      by_cases cl : nI q < nI z
      · rw [if_pos cl, if_pos cl]
        exact ⟨h2, h3, rfl⟩
      · rw [if_neg cl, if_neg cl]
        have hz := (nI_leI (by omega) (by omega)).mp (Int32.not_lt.mp cl)
        refine ⟨fun j hj => ?_, ?_, ?_⟩
        · dsimp only
          rw [wrF_lo (by omega) hj]
          unfold upd
          rw [← eb, q2]
          by_cases ej : j = Y % n
          · rw [if_pos ej, if_pos ej, pk_sub hz]
            exact ⟨rfl, q - z, by omega, rfl⟩
          · rw [if_neg ej, if_neg ej]; exact h2 j hj
        · rw [wrF_12 (by omega) (by omega), h3, Int32.add_assoc]
        · rw [wrF_13 (by omega) (by omega)]
  obtain ⟨w1, w2, w3⟩ := wr
  generalize dwS ki ha n cm Y c du dy = D at *
  generalize drW A n cm Y u = u2 at *
  refine ⟨fun j hj => ?_, rfl, fun j hj => ?_, ?_, ?_, ?_⟩
  · obtain ⟨-, q, q1, q2⟩ := w1 j (by omega)
    rw [q2, er]
    exact (rain_ok q1 hr).1
  · show deR on ra n Y D.1 j = upd (drR A ra n Y u2) 13 (drR A ra n Y u2 13 + 1) j ∧ ∃ c, c ≤ 30 ∧ deR on ra n Y D.1 j = nI c
    unfold upd
    rw [if_neg (by omega)]
    unfold deR drR
    by_cases c4 : Y % 4 = 0
    · rw [if_pos c4, if_pos c4]
      refine ⟨rainF_cg hn (fun j hj => (w1 j hj).1) ho j hj, ?_⟩
      obtain ⟨-, q, q1, q2⟩ := w1 j hj
      unfold rainF
      by_cases cw : j < n ∧ wetB D.1 on n j
      · rw [if_pos cw, q2, er]
        obtain ⟨-, z, z1, z2⟩ := rain_ok q1 hr
        exact ⟨z, by omega, z2⟩
      · rw [if_neg cw]; exact ⟨q, q1, q2⟩
    · rw [if_neg c4, if_neg c4]; exact w1 j hj
  · show upd (drR A ra n Y u2) 13 (drR A ra n Y u2 13 + 1) 12 = A 715 12 + D.2
    unfold upd
    rw [if_neg (by decide)]
    unfold drR
    by_cases c4 : Y % 4 = 0
    · rw [if_pos c4]
      unfold rainF
      rw [if_neg (by omega)]; exact w2
    · rw [if_neg c4]; exact w2
  · show dy + 1 = upd (drR A ra n Y u2) 13 (drR A ra n Y u2 13 + 1) 13
    unfold upd
    rw [if_pos rfl, h4]
    unfold drR
    by_cases c4 : Y % 4 = 0
    · rw [if_pos c4]
      unfold rainF
      rw [if_neg (by omega), w3]
    · rw [if_neg c4, w3]
  · show upd (drR A ra n Y u2) 13 (drR A ra n Y u2 13 + 1) 13 = nI (dd + 1)
    unfold upd
    rw [if_pos rfl]
    unfold drR
    by_cases c4 : Y % 4 = 0
    · rw [if_pos c4]
      unfold rainF
      rw [if_neg (by omega), w3, h5, nI_1]
    · rw [if_neg c4, w3, h5, nI_1]
theorem b_drawn {nd sd wh : Int32} (hmv : MVal H (x + 1) I A) (hR : RD H K V W (y + 1) (x + 1) I A n cm at' am by' tm rs t) : Both 0 0 mX6_drawn mX7_drawn [.inl nd, .inl sd, .inl wh] (y + 1) (x + 1) (CU H K V W) (INV (y + 1) (x + 1) (t + 1)) := by
  intro kk1 hk1
  have n8 := hR.n8
  have c4 := hR.c4
  have era : pI H (hfR H 604 (y + 1)) 100 = I 710 := hR.2.2.2.1.1.2.1
  obtain ⟨dd, dd9, edd⟩ := hR.bw.2.2
  have all : ∀ s c0 t0, 0 < n → (∀ j, j < 8 → c0 j = W 100 j) → (∀ j, j < 14 → t0 j = A 715 j) → ∀ k, k ≤ 61 → DRk A (deS (pA H (hfR H 604 (y + 1)) 106) (pA H (hfR H 604 (y + 1)) 108) (pA H (hfR H 604 (y + 1)) 109) (I 710) n cm s c0 (V 503 10) k) (drS A (I 710) n cm s t0 k) (dd + k) := by
    intro s c0 t0 n1 hc ht k
    induction k with
    | zero =>
      intro _
      refine ⟨rfl, fun j hj => ⟨?_, ?_⟩, ?_, ?_, ?_⟩
      · show c0 j = t0 j
        rw [hc j hj, ht j (by omega), hR.w1 hj]
      · show ∃ c, c ≤ 30 ∧ c0 j = nI c
        rw [hc j hj, hR.w1 hj]
        obtain ⟨q, q1, q2, -⟩ := hR.bw.1 j hj
        exact ⟨q, q1, q2⟩
      · show t0 12 = A 715 12 + 0
        rw [ht 12 (by omega), Int32.add_zero]
      · show V 503 10 = t0 13
        rw [ht 13 (by omega), hR.dy]
      · show t0 13 = nI dd
        rw [ht 13 (by omega), edd]
    | succ k ih =>
      intro hk
      obtain ⟨r, r1, r9, er⟩ := hR.wp.1 n1
      exact (drk_s n1 n8 c4 (fun j hj => hR.on hj) (fun c hc => ⟨hR.ki hc, hR.ha hc⟩) (fun c hc => (hR.wp.2.2 c hc).2) er ⟨r1, r9⟩ (by omega) (ih (by omega))).2
  refine c_drawn hR.cs hR.pn (fun s c0 k hk hc j hj => ?_) (fun c => ro hmv hR hk1 (fun kk2 h2 => m_drawn hR.ms hR.mi (fun _ => h2 A (EA.rf A)) (fun z _ => absurd c (by omega)) (fun A' m s t0 z _ _ _ _ _ _ _ _ => absurd c (by omega)))) (fun c q => ro hmv hR hk1 (fun kk2 h2 => m_drawn hR.ms hR.mi (fun z => absurd z (by omega)) (fun _ _ => h2 A (EA.rf A)) (fun A' m s t0 _ m1 em s1 s9 es w _ _ => absurd ⟨by rw [em]; exact ⟨(nI_leI (a := 0) (by omega) (by omega)).mpr (Nat.zero_le m), (nI_leI (b := 60) (by omega) (by omega)).mpr m1⟩, by rw [es]; exact ⟨(nI_leI (a := 1) (by omega) (by omega)).mpr s1, (nI_leI (b := 999999) (by omega) (by omega)).mpr s9⟩, inR2.mp w⟩ q)))
    (fun m s c0 T V2 W2 c m1 em s1 s9 es w hc eT hv hw => ?_)
  · obtain ⟨r, r1, r9, er⟩ := hR.wp.1 (by omega)
    rw [era]
    exact (drk_s (by omega) n8 c4 (fun j hj => hR.on hj) (fun c hc => ⟨hR.ki hc, hR.ha hc⟩) (fun c hc => (hR.wp.2.2 c hc).2) er ⟨r1, r9⟩ (by omega) (all s c0 (A 715) (by omega) hc (fun _ _ => rfl) k (by omega))).1 j hj
  · rw [era] at eT
    refine gen hmv hR.sm hk1 (fun kk2 hk2 => m_drawn hR.ms hR.mi (fun z => absurd z (by omega)) (fun _ z => absurd ⟨by rw [em]; exact ⟨(nI_leI (a := 0) (by omega) (by omega)).mpr (Nat.zero_le m), (nI_leI (b := 60) (by omega) (by omega)).mpr m1⟩, by rw [es]; exact ⟨(nI_leI (a := 1) (by omega) (by omega)).mpr s1, (nI_leI (b := 999999) (by omega) (by omega)).mpr s9⟩, inR2.mpr w⟩ z) (fun A' m' s' t0 _ m1' em' _ s9' es' _ eA ht => ?_))
    obtain rfl : m = m' := nIj (by omega) (by omega) (em.symm.trans em')
    obtain rfl : s = s' := nIj (by omega) (by omega) (es.symm.trans es')
    obtain ⟨-, q2, q3, -, -⟩ := all s c0 t0 c hc ht m (by omega)
    rw [← eT] at q2 q3
    refine kki (hk2 I A' ((hR.t1.ve hv hw).ea eA).toX) ?_ rfl
    have e1 : stP (A 712) (posB (drS A (I 710) n cm s t0 m).2) n = stP (pA H (hfR H 604 (y + 1)) 106) (posB T.2.1) n := stP_congr (fun k hk => ⟨(hR.on (by omega)).symm, by unfold posB; rw [(q2 k (by omega)).1]⟩)
    have e2 : (drS A (I 710) n cm s t0 m).2 12 - A 715 12 = T.2.2.1 := by
      rw [q3, Int32.add_comm, Int32.add_sub_cancel]
    rw [e1, e2]
end Q16
