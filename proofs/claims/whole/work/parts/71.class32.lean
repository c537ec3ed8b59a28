/-! ===== the class: castle ===== -/
section N3
variable {H h h' : hp} {K : Nat → Nat} {V W : Nat → Nat → Int32}
theorem CU_re (hz' : ∀ z, K z < 400 → (∀ f, hfI h f z = V f (K z)) ∧ haI h z = W (K z)) : CU h K V W = h := by
  unfold CU
  refine Prod.ext ?_ (Prod.ext rfl (Prod.ext ?_ rfl))
  · funext f z
    show (if K z < 400 then V f (K z) else h.1 f z) = h.1 f z
    by_cases c : K z < 400
    · rw [if_pos c]; exact ((hz' z c).1 f).symm
    · rw [if_neg c]
  · funext z
    show (if K z < 400 then W (K z) else h.2.2.1 z) = h.2.2.1 z
    by_cases c : K z < 400
    · rw [if_pos c]; exact (hz' z c).2.symm
    · rw [if_neg c]
theorem RU_self (h : hp) (q p : Nat) : RU h q p (fun f => hfI h f q) (fun f => hfI h f p) (fun f => haI h (hfR h f p)) = h := by
  have e := RP_self h p
  unfold RP at e
  have e3 := congrArg (fun x : hp => x.2.2.1) e
  unfold RU
  refine Prod.ext ?_ (Prod.ext rfl (Prod.ext ?_ rfl))
  · funext f z
    show (if z = q then hfI h f q else if z = p then hfI h f p else h.1 f z) = h.1 f z
    by_cases c1 : z = q
    · rw [if_pos c1, c1]; rfl
    · rw [if_neg c1]
      by_cases c2 : z = p
      · rw [if_pos c2, c2]; rfl
      · rw [if_neg c2]
  · exact e3
/-- the reader's ints anew -/
abbrev vJ (V : Nat → Nat → Int32) (J : Nat → Int32) : Nat → Nat → Int32 := fun f t => if t = 9 then J f else V f t
theorem RU_CU {q p : Nat} {J P : Nat → Int32} {B : Nat → Nat → Int32} (hK : KI K) (h1 : K q = 9) (h2 : PQ H K p 3) : RU (CU H K V W) q p J P B = CU (RP H p P B) K (vJ V J) W := by
  have kp : ¬ K p < 400 := by rw [h2.1.2.1]; omega
  have ka : ∀ f, f59 f → ¬ K (hfR H f p) < 400 := fun f hf => by
    rw [(h2.kf hf).1]
    rcases hf with rfl | rfl | rfl | rfl | rfl <;> omega
  unfold RU
  refine Prod.ext ?_ (Prod.ext rfl (Prod.ext ?_ rfl))
  · funext f z
    show (if z = q then J f else if z = p then P f else if K z < 400 then V f (K z) else H.1 f z) = (if K z < 400 then (if K z = 9 then J f else V f (K z)) else if z = p then P f else H.1 f z)
    by_cases c1 : z = q
    · rw [if_pos c1, c1, h1, if_pos (by decide), if_pos rfl]
    · have c9 : K z ≠ 9 := fun e => c1 (hK z q (by omega) (by omega))
      rw [if_neg c1, if_neg c9]
      by_cases c2 : z = p
      · rw [if_pos c2, if_pos c2, if_neg (by rw [c2]; exact kp)]
      · rw [if_neg c2, if_neg c2]
  · funext z
    show (if z = hfR H 105 p then B 105 else if z = hfR H 106 p then B 106 else if z = hfR H 107 p then B 107 else if z = hfR H 108 p then B 108 else if z = hfR H 109 p then B 109 else if K z < 400 then W (K z) else H.2.2.1 z) = (if K z < 400 then W (K z) else if z = hfR H 105 p then B 105 else if z = hfR H 106 p then B 106 else if z = hfR H 107 p then B 107 else if z = hfR H 108 p then B 108 else if z = hfR H 109 p then B 109 else H.2.2.1 z)
    by_cases c : K z < 400
    · have n : ∀ f, f59 f → z ≠ hfR H f p := fun f hf e => ka f hf (by rw [← e]; exact c)
      rw [if_neg (n 105 (by decide)), if_neg (n 106 (by decide)), if_neg (n 107 (by decide)), if_neg (n 108 (by decide)), if_neg (n 109 (by decide)), if_pos c, if_pos c]
    · rw [if_neg c, if_neg c]
theorem RS_of {z : Nat} (hD : RDR H K z) : RS (CU H K V W) z (hfR H 200 z) (hfR H 201 z) := by
  obtain ⟨⟨d1, d2⟩, ⟨t1, t2, t3⟩, hp⟩ := hD
  refine ⟨⟨hp.1.1, fun e => ?_, rfl⟩, ⟨rfl, t1, t3⟩, ?_, ?_, fun f hf => ⟨(hp.kf hf).2, fun e => ?_⟩, fun f g hf hg hne => hp.ne hf hg hne⟩
  · have := hp.1.2.1
    rw [e] at this
    omega
  · rintro f (rfl | rfl | rfl)
    · exact hp.2.1.2.2
    · exact hp.2.2.1.2.2
    · exact hp.2.2.2.1.2.2
  · rintro f (rfl | rfl)
    · exact hp.2.2.2.2.1.2.2
    · exact hp.2.2.2.2.2.2.2
  · have e2 : hfR H 201 z = hfR H f (hfR H 200 z) := e
    have := (hp.kf hf).1
    rw [← e2] at this
    omega
end N3
/-- a plan is what was read -/
def CAp (v w : Int32) (S : PS) (P : Nat → Int32) (B : Nat → Nat → Int32) : Prop := (P 100 = v ∧ P 101 = w ∧ P 102 = nI S.2.1 ∧ P 103 = nI S.2.2.1 ∧ P 104 = nI S.2.2.2.1) ∧ (∀ j, j < 8 → B 106 j = S.2.2.2.2.2.1 j ∧ B 107 j = lyF S.2.2.2.2.2.1 S.2.1 j) ∧ (∀ j, j < S.2.2.2.1 → B 108 j = S.2.2.2.2.2.2.1 j ∧ B 109 j = S.2.2.2.2.2.2.2 j) ∧ (S.2.1 ≤ 8 ∧ S.2.2.1 ≤ 12 ∧ S.2.2.2.1 ≤ 4) ∧ ∀ j, S.2.1 ≤ j → S.2.2.2.2.1 j = 0 ∧ S.2.2.2.2.2.1 j = 0
section N4
variable {d y Bn : Nat} {H : hp} {K : Nat → Nat} {V W : Nat → Nat → Int32} {kk : Rt}
theorem c_readCastleE {d q' q p t Bn : Nat} {h h0 : hp} {J P : Nat → Int32} {B : Nat → Nat → Int32} {kk : Rt} (eq : q' = q) (hq0 : q ≠ 0) (eh : h0 = RU h q p J P B) (hS : RS h q p t) (hb : J 202 = nI Bn) (hb2 : Bn ≤ 120) (hf : ∀ f r J P B, claR (haI h t) Bn = .inl (f, r) → J 202 = nI Bn → J 203 = nI r → J 204 = f → ¬ f = 0 → kk none (RU h q p J P B))
    (hg : ∀ v w S J P B, claR (haI h t) Bn = .inr (v, w, S) → RCe Bn v w S J P B → kk none (RU h q p J P B)) : CL (d + 3) mX2_readCastle 0 0 [.inr (.inr (3, q'))] h0 kk := by
  subst eh
  subst eq
  obtain ⟨q, rfl⟩ : ∃ z, q' = z + 1 := ⟨q' - 1, by omega⟩
  exact c_readCastle hS hb hb2 hf hg
set_option maxRecDepth 20000 in
theorem c_castle (hS : CS H K (y + 1)) (hby : V 202 9 = nI Bn) (hb2 : Bn ≤ 120)
    (hf : ∀ f r P B V', claR (W 4) Bn = .inl (f, r) → (∀ g s, s ≠ 9 → V' g s = up2 V 602 1 f g s) → V' 202 9 = 0 → kk (some (.inl (-1000100 - nI r))) (CU (RP H (hfR H 200 (hfR H 601 (y + 1))) P B) K V' W))
    (hg : ∀ v w S P B P' B' V' W', claR (W 4) Bn = .inr (v, w, S) → CAp v w S P' B' → ((∀ g s, s ≠ 9 → s ≠ 10 → V' g s = up2 V 608 1 0 g s) ∧ V' 202 9 = 0 ∧ V' 502 10 = 0 ∧ V' 503 10 = 0) → ((∀ t, t ≠ 100 → t ≠ 200 → W' t = W t) ∧ (∀ j, j < 8 → W' 100 j = S.2.2.2.2.1 j) ∧ ∀ j, j < 4 → W' 200 j = 0) → kk (some (.inl (nI S.2.1))) (CU (RP (RP H (hfR H 200 (hfR H 601 (y + 1))) P B) (hfR H 604 (y + 1)) P' B') K V' W')) : CL (d + 4) mX6_castle 0 0 [.inr (.inr (7, y + 1))] (CU H K V W) kk := by
  have hD := hS.rdr
  obtain ⟨⟨d1, d2⟩, ⟨t1, t2, t3⟩, hp3⟩ := hS.rdr
  have eT : haI (CU H K V W) (hfR H 201 (hfR H 601 (y + 1))) = W 4 := CU_aI t2 (by decide)
  refine mw T_X6_castle (fun Wm go => go (cut1 7) 80 0 _ _ _ _ _ ?_)
  refine nz d1 ?_
  refine c_readCastleE (CU_e _ _ _ _ _ _) d1 (RU_self (CU H K V W) (hfR H 601 (y + 1)) (hfR H 200 (hfR H 601 (y + 1)))).symm (RS_of hD) ((CU_fI d2 (by decide)).trans hby) hb2 (fun f r J P B x1 x2 x3 x4 x5 => ?_) (fun v w S J P B x1 x2 => ?_)
  · rw [eT] at x1
    have hf1 := hf f r P B
    clear hg hf
    rw [RU_CU hS.k d2 hp3]
    have hS1 : CS (RP H (hfR H 200 (hfR H 601 (y + 1))) P B) K (y + 1) := hS
    have d21 : K (hfR (RP H (hfR H 200 (hfR H 601 (y + 1))) P B) 601 (y + 1)) = 9 := d2
    have d11 : hfR (RP H (hfR H 200 (hfR H 601 (y + 1))) P B) 601 (y + 1) ≠ 0 := d1
    generalize RP H (hfR H 200 (hfR H 601 (y + 1))) P B = H1 at *
    refine go (cut1 15) 40 7 _ _ _ _ _ ?_
    refine nz d11 ?_
    refine wmc (Wm := Wm) (h' := CU H1 K (up2 (vJ V J) 202 9 0) W) ?_ rfl (CU_wI hS1.k d21 (by decide))
    have q4 : ∀ V, hfI (CU H1 K V W) 204 (hfR (CU H1 K V W) 601 (y + 1)) = V 204 9 := fun V => CU_fI d21 (by decide)
    have q3 : ∀ V, hfI (CU H1 K V W) 203 (hfR (CU H1 K V W) 601 (y + 1)) = V 203 9 := fun V => CU_fI d21 (by decide)
    have v4 : up2 (vJ V J) 202 9 0 204 9 = f := x4
    refine go (cut1 36) 60 15 _ _ _ _ _ ?_
    refine nz d11 ?_
    refine And.intro (fun z => absurd (((q4 _).trans v4).symm.trans z) x5) (fun _ => ?_)
    refine nz d11 ?_
    refine wmc (Wm := Wm) (h' := CU H1 K (up2 (up2 (vJ V J) 202 9 0) 602 1 f) W) ?_ rfl (by rw [q4, v4]; exact CU_wI hS1.k hS1.y1 (by decide))
    refine go cut0 60 36 _ _ _ _ _ ?_
    refine nz d11 ?_
    refine kki (hf1 (up2 (up2 (vJ V J) 202 9 0) 602 1 f) x1 (fun g s hs => ?_) ?_) ?_ rfl
    · refine up2_cg ?_
      rw [up2_nx hs]
      exact if_neg hs
    · rw [up2_nf (by decide), up2_eq]
    · show -1000100 - hfI _ 203 _ = _
      rw [q3]
      have v3 : up2 (up2 (vJ V J) 202 9 0) 602 1 f 203 9 = nI r := x3
      rw [v3]
  · rw [eT] at x1
    have hg1 := fun P' B' V' W' => hg v w S P B P' B' V' W' x1
    clear hg hf
    obtain ⟨B0, ⟨-, -, g4, ⟨ga, gb⟩, ⟨gc, gc8⟩, ⟨gd, gd12⟩, ⟨ge, ge4⟩, j5, j6, j8, j9, j10, -⟩, b1, b2⟩ := x2
    rw [RU_CU hS.k d2 hp3]
    have hS1 : CS (RP H (hfR H 200 (hfR H 601 (y + 1))) P B) K (y + 1) := hS
    have d21 : K (hfR (RP H (hfR H 200 (hfR H 601 (y + 1))) P B) 601 (y + 1)) = 9 := d2
    have d11 : hfR (RP H (hfR H 200 (hfR H 601 (y + 1))) P B) 601 (y + 1) ≠ 0 := d1
    have hp31 : PQ (RP H (hfR H 200 (hfR H 601 (y + 1))) P B) K (hfR H 200 (hfR H 601 (y + 1))) 3 := hp3
    have ep3 : hfR (RP H (hfR H 200 (hfR H 601 (y + 1))) P B) 200 (hfR (RP H (hfR H 200 (hfR H 601 (y + 1))) P B) 601 (y + 1)) = hfR H 200 (hfR H 601 (y + 1)) := rfl
    have e604 : hfR (RP H (hfR H 200 (hfR H 601 (y + 1))) P B) 604 (y + 1) = hfR H 604 (y + 1) := rfl
    have hpi : ∀ f, pI (RP H (hfR H 200 (hfR H 601 (y + 1))) P B) (hfR H 200 (hfR H 601 (y + 1))) f = P f := fun f => RP_p f
    have hpa : ∀ f, f59 f → pA (RP H (hfR H 200 (hfR H 601 (y + 1))) P B) (hfR H 200 (hfR H 601 (y + 1))) f = B f := fun f hf => RP_B hp3 hf
    generalize RP H (hfR H 200 (hfR H 601 (y + 1))) P B = H1 at *
    generalize hfR H 200 (hfR H 601 (y + 1)) = p3 at *
    generalize hfR H 604 (y + 1) = p0 at *
    refine go (cut1 15) 40 7 _ _ _ _ _ ?_
    refine nz d11 ?_
    refine wmc (Wm := Wm) (h' := CU H1 K (up2 (vJ V J) 202 9 0) W) ?_ rfl (CU_wI hS1.k d21 (by decide))
    obtain ⟨V1, hV1⟩ : ∃ V1 : Nat → Nat → Int32, V1 = up2 (vJ V J) 202 9 0 := ⟨_, rfl⟩
    have v1 : ∀ g s, s ≠ 9 → V1 g s = V g s := fun g s hs => by
      rw [hV1, up2_nx hs]
      exact if_neg hs
    have v2 : V1 202 9 = 0 := by rw [hV1, up2_eq]
    have v4 : V1 204 9 = 0 := by
      rw [hV1]
      exact g4
    rw [← hV1]
    clear hV1
    have q4 : hfI (CU H1 K V1 W) 204 (hfR (CU H1 K V1 W) 601 (y + 1)) = 0 := (CU_fI d21 (by decide)).trans v4
    refine go (cut1 61) 60 15 _ _ _ _ _ ?_
    refine nz d11 ?_
    refine And.intro (fun _ => ?_) (fun z => absurd q4 z)
    refine nz d11 ?_
    refine nz hS1.pl.1.1 ?_
    refine c_pbecome (p := hfR H1 604 (y + 1)) (o := p3) (CU_e _ _ _ _ _ _) hS1.pl0 ep3 hp31 (by decide) (fun P' B' hPE => ?_)
    rw [e604]
    have hp0 : PQ H1 K p0 0 := by rw [← e604]; exact hS1.pl0
    have hg2 := hg1 P' B'
    clear hg1
    obtain ⟨⟨i0, i1, i2, i3, i4⟩, a8, a4⟩ := hPE
    have hS2 : CS (RP H1 p0 P' B') K (y + 1) := hS1
    have e6042 : hfR (RP H1 p0 P' B') 604 (y + 1) = p0 := e604
    have h5 : pA (RP H1 p0 P' B') p0 105 = B' 105 := RP_B hp0 (by decide)
    have h2 : pI (RP H1 p0 P' B') p0 102 = P' 102 := RP_p 102
    have kp0 : 400 ≤ K p0 := by rw [hp0.1.2.1]; omega
    have pn0 := hp0.1.1
    have hPP : PP (RP H1 p0 P' B') K p0 := PQ.pp (show PQ (RP H1 p0 P' B') K p0 0 from hp0)
    generalize RP H1 p0 P' B' = H2 at *
    refine go cut0 60 61 _ _ _ _ _ ?_
    refine nz hS2.now.1.1 ?_
    refine c_begin hS2.k ((CU_e _ _ _ _ _ _).trans e6042) hPP (CU_e _ _ _ _ _ _) hS2.now (fun V' W' y1 y2 y3 y4 y5 y6 => ?_)
    have hh : wfI (CU H2 K V' W') 608 (y + 1) 0 = CU H2 K (up2 V' 608 1 0) W' := CU_wI hS2.k hS2.y1 (by decide)
    have ep : hfR (CU H2 K (up2 V' 608 1 0) W') 604 (y + 1) = p0 := e6042
    have ep2 : hfR (wfI (CU H2 K V' W') 608 (y + 1) 0) 604 (y + 1) = p0 := e6042
    refine nz (by rw [ep2]; exact pn0) ?_
    refine kki (hg2 (up2 V' 608 1 0) W' ⟨⟨?_, ?_, ?_, ?_, ?_⟩, fun j hj => ⟨?_, ?_⟩, fun j hj => ⟨?_, ?_⟩, ⟨gc8, gd12, ge4⟩, j10⟩ ⟨fun g s s9 s10 => ?_, ?_, ?_, ?_⟩ ⟨y4, fun j hj => ?_, y6⟩) ?_ hh
    · rw [i0, hpi]; exact ga
    · rw [i1, hpi]; exact gb
    · rw [i2, hpi]; exact gc
    · rw [i3, hpi]; exact gd
    · rw [i4, hpi]; exact ge
    · rw [(a8 j hj).2.1, hpa 106 (by decide), b1 106 (by decide)]; exact j6 j hj
    · rw [(a8 j hj).2.2, hpa 107 (by decide), b2 j hj]
      have : lyF (B 106) S.2.1 = lyF S.2.2.2.2.2.1 S.2.1 := lyF_cg _ (fun i hi => by rw [b1 106 (by decide)]; exact j6 i (by omega))
      rw [this]
    · rw [(a4 j (by omega)).1, hpa 108 (by decide), b1 108 (by decide)]; exact j8 j hj
    · rw [(a4 j (by omega)).2, hpa 109 (by decide), b1 109 (by decide)]; exact j9 j hj
    · exact up2_cg ((y1 g s s10).trans (v1 g s s9))
    · rw [up2_nf (by decide)]; exact (y1 202 9 (by decide)).trans v2
    · rw [up2_nf (by decide)]; exact y2
    · rw [up2_nf (by decide)]; exact y3
    · rw [y5 j hj, h5, (a8 j hj).1, hpa 105 (by decide), b1 105 (by decide)]; exact j5 j hj
    · rw [hh, ep, CU_fIo kp0]
      exact h2.trans (i2.trans ((hpi 102).trans gc))
end N4
