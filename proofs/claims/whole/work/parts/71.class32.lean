/-! ===== the class: castle ===== -/
section N3
variable {H h h' : hp} {K : Nat → Nat} {V W : Nat → Nat → Int32}
theorem CU_re (hz' : ∀ z, K z < 400 → (∀ f, hfI h f z = V f (K z)) ∧ haI h z = W (K z)) : CU h K V W = h := by
  unfold CU
  refine Prod.ext ?_ (Prod.ext rfl (Prod.ext ?_ rfl))
  · funext f z
    show (if K z < 400 then V f (K z) else h.1 f z) = h.1 f z
    by_cases c : K z < 400
    · rw [if_pos c]; exact ((hz' z c).1 f).symm
    · rw [if_neg c]
  · funext z
    show (if K z < 400 then W (K z) else h.2.2.1 z) = h.2.2.1 z
    by_cases c : K z < 400
    · rw [if_pos c]; exact (hz' z c).2.symm
    · rw [if_neg c]
theorem CU_ex (hK : KZ H K) (e : EX (CU H K V W) h) : CU h K V W = h := by
  refine CU_re (fun z hk => ?_)
  obtain ⟨e1, -, e3, -⟩ := e.2 z (hK.lt hk)
  exact ⟨fun f => (e1 f).trans (CU_fI rfl hk), e3.trans (CU_aI rfl hk)⟩
theorem RU_self {q p t : Nat} (hS : RS h q p t) : RU h q p (fun f => hfI h f q) (fun f => hfI h f p) (fun f => haI h (hfR h f p)) = h := by
  unfold RU
  refine Prod.ext ?_ (Prod.ext rfl (Prod.ext ?_ rfl))
  · funext f z
    show (if z = q then hfI h f q else if z = p then hfI h f p else h.1 f z) = h.1 f z
    by_cases c1 : z = q
    · rw [if_pos c1, c1]; rfl
    · rw [if_neg c1]
      by_cases c2 : z = p
      · rw [if_pos c2, c2]; rfl
      · rw [if_neg c2]
  · funext z
    show (if z = hfR h 105 p then haI h (hfR h 105 p) else if z = hfR h 106 p then haI h (hfR h 106 p) else if z = hfR h 107 p then haI h (hfR h 107 p) else if z = hfR h 108 p then haI h (hfR h 108 p) else h.2.2.1 z) = h.2.2.1 z
    by_cases c1 : z = hfR h 105 p
    · rw [if_pos c1, c1]; rfl
    · rw [if_neg c1]
      by_cases c2 : z = hfR h 106 p
      · rw [if_pos c2, c2]; rfl
      · rw [if_neg c2]
        by_cases c3 : z = hfR h 107 p
        · rw [if_pos c3, c3]; rfl
        · rw [if_neg c3]
          by_cases c4 : z = hfR h 108 p
          · rw [if_pos c4, c4]; rfl
          · rw [if_neg c4]
theorem RU_ex {q p : Nat} {J P : Nat → Int32} {B : Nat → Nat → Int32} (e : EX H h) (h1 : hz H ≤ q) (h2 : hz H ≤ p) (h5 : hz H ≤ hfR h 105 p) (h6 : hz H ≤ hfR h 106 p) (h7 : hz H ≤ hfR h 107 p) (h8 : hz H ≤ hfR h 108 p) : EX H (RU h q p J P B) := by
  refine ⟨e.1, fun z z1 => ?_⟩
  obtain ⟨e1, e2, e3, e4, e5⟩ := e.2 z z1
  refine ⟨fun f => ?_, e2, ?_, e4, e5⟩
  · show (if z = q then _ else if z = p then _ else hfI h f z) = _
    rw [if_neg (by omega), if_neg (by omega)]; exact e1 f
  · show (if z = hfR h 105 p then _ else if z = hfR h 106 p then _ else if z = hfR h 107 p then _ else if z = hfR h 108 p then _ else haI h z) = _
    rw [if_neg (by omega), if_neg (by omega), if_neg (by omega), if_neg (by omega)]; exact e3
end N3
/-- a castle read: the plan p, the State anew -/
def CAok (H : hp) (K : Nat → Nat) (V W : Nat → Nat → Int32) (y : Nat) (v w : Int32) (S : PS) (H2 : hp) (V' W' : Nat → Nat → Int32) (p : Nat) : Prop :=
  (∃ h2, EX (CU H K V W) h2 ∧ H2 = wfR h2 605 y p) ∧ (PP H2 K p ∧ PZ H2 p) ∧ (pI H2 p 100 = v ∧ pI H2 p 101 = w ∧ pI H2 p 102 = nI S.2.1 ∧ pI H2 p 103 = nI S.2.2.1 ∧ pI H2 p 104 = nI S.2.2.2.1) ∧ (∀ j, pA H2 p 106 j = S.2.2.2.2.2.1 j ∧ pA H2 p 107 j = S.2.2.2.2.2.2.1 j ∧ pA H2 p 108 j = S.2.2.2.2.2.2.2 j) ∧ (S.2.1 ≤ 8 ∧ S.2.2.1 ≤ 12 ∧ S.2.2.2.1 ≤ 4) ∧ ((∀ f t, t ≠ 10 → V' f t = up2 (up2 V 602 1 0) 609 1 0 f t) ∧ V' 502 10 = 0 ∧ V' 503 10 = 0) ∧ ((∀ t, t ≠ 100 → t ≠ 200 → W' t = W t) ∧ (∀ j, j < 8 → W' 100 j = S.2.2.2.2.1 j) ∧ (∀ j, j < 4 → W' 200 j = 0)) ∧ (∀ j, S.2.1 ≤ j → S.2.2.2.2.1 j = 0 ∧ S.2.2.2.2.2.1 j = 0) ∧ hz H ≤ p ∧ hz H ≤ hfR H2 105 p ∧ hz H ≤ hfR H2 106 p ∧ hz H ≤ hfR H2 107 p ∧ hz H ≤ hfR H2 108 p
section N4
variable {d y Bn : Nat} {H : hp} {K : Nat → Nat} {V W : Nat → Nat → Int32} {kk : Rt}
theorem c_readerInitE {d x t t' Bn : Nat} {bv : Int32} {h : hp} {kk : Rt} (et : t' = t) (eb : bv = nI Bn) (hx : x + 1 < hz h) (ht : t ≠ 0 ∧ t < hz h ∧ haL h t = 120) (hB : Bn ≤ 120) (hk : ∀ h', RDN h h' (x + 1) t Bn → kk none h') : CL (d + 2) mX2_init 5 33 [.inr (.inr (3, x + 1)), .inr (.inr (20, t')), .inl bv] h kk := by
  subst et
  subst eb
  exact c_readerInit hx ht hB hk
theorem c_readCastleE {d q p t Bn : Nat} {h h0 : hp} {J P : Nat → Int32} {B : Nat → Nat → Int32} {kk : Rt} (eh : h0 = RU h (q + 1) p J P B) (hS : RS h (q + 1) p t) (hb : J 202 = nI Bn) (hb2 : Bn ≤ 120) (hj3 : J 203 = 0) (hj4 : J 204 = 0) (hP : P 102 = 0 ∧ P 103 = 0 ∧ P 104 = 0) (hB : ∀ j, B 105 j = 0 ∧ B 106 j = 0 ∧ B 107 j = 0 ∧ B 108 j = 0) (hf : RKf kk h q p Bn (claR (haI h t) Bn))
    (hg : ∀ v w S J P B, claR (haI h t) Bn = .inr (v, w, S) → RC Bn v w S J P B → kk none (RU h (q + 1) p J P B)) : CL (d + 3) mX2_readCastle 0 0 [.inr (.inr (3, q + 1))] h0 kk := by
  subst eh
  exact c_readCastle hS hb hb2 hj3 hj4 hP hB hf hg
set_option maxRecDepth 20000 in
theorem c_castle (hS : CS H K (y + 1)) (hK : KZ H K) (hZ : PZ H (hfR H 605 (y + 1))) (hz1 : 0 < hz H) (hby : V 602 1 = nI Bn) (hb2 : Bn ≤ 120)
    (hf : ∀ f r H2, claR (W 4) Bn = .inl (f, r) → EX (CU H K V W) H2 → kk (some (.inl (-1000100 - nI r))) (CU H2 K (up2 (up2 V 602 1 0) 603 1 f) W))
    (hg : ∀ v w S H2 V' W' p, claR (W 4) Bn = .inr (v, w, S) → CAok H K V W (y + 1) v w S H2 V' W' p → kk (some (.inl (nI S.2.1))) (CU H2 K V' W')) : CL (d + 4) mX6_castle 6 38 [.inr (.inr (7, y + 1))] (CU H K V W) kk := by
  obtain ⟨u1, u2, u3⟩ := hS.tape
  have hyz : y + 1 < hz H := hK.lt (by have := hS.y1; omega)
  have htz : hfR H 601 (y + 1) < hz H := hK.lt (by omega)
  refine mw T_X6_castle (fun Wm go => go (cut2 16 20) 80 0 _ _ _ _ _ ?_)
  refine And.intro ⟨by decide, by decide⟩ (fun x hx => ?_)
  have hx : hz H ≤ x := hx
  obtain ⟨x, rfl⟩ : ∃ z, x = z + 1 := ⟨x - 1, by omega⟩
  refine And.intro ⟨by decide, by decide⟩ ?_
  have hyx : y + 1 ≠ x + 1 := by omega
  have e61 : hfR (wobj (CU H K V W) (x + 1)) 601 (y + 1) = hfR H 601 (y + 1) := if_neg hyx
  have e62 : hfI (wobj (CU H K V W) (x + 1)) 602 (y + 1) = nI Bn := (if_neg hyx).trans ((CU_fI hS.y1 (by decide)).trans hby)
  refine c_readerInitE e61 e62 (Nat.lt_succ_self _) ⟨u1, by show _ < x + 1 + 1; omega, u3⟩ hb2 (fun h1 hN => ?_)
  obtain ⟨p, a, b, c, e, n1, ⟨o0, o1, o2, o3, o4, o5⟩, ⟨i0, i1, i2, i3, i4⟩, ⟨r5, r6, r7, r8⟩, ⟨l5, l6, l7, l8⟩, ⟨z5, z6, z7, z8⟩, ⟨s0, s1, s2, s3, s4⟩⟩ := hN
  have o0 : x + 1 + 1 ≤ p := o0
  have hE : EX (CU H K V W) h1 := EXn.new hx n1
  have hEt := hE.2 (hfR H 601 (y + 1)) htz
  have hRS : RS h1 (x + 1) p (hfR H 601 (y + 1)) := by
    refine ⟨⟨by omega, by omega, s0⟩, ⟨s1, u1, hEt.2.2.2.1.trans u3⟩, ?_⟩
    rw [r5, r6, r7, r8]
    exact ⟨⟨by omega, l5⟩, ⟨by omega, l6⟩, ⟨by omega, l7⟩, ⟨by omega, l8⟩, ⟨by omega, by omega, by omega, by omega, by omega, by omega⟩, ⟨by omega, by omega, by omega, by omega⟩⟩
  have eT : haI h1 (hfR H 601 (y + 1)) = W 4 := hEt.2.2.1.trans (CU_aI u2 (by decide))
  refine go (cut1 20) 40 16 _ _ _ _ _ ?_
  refine c_readCastleE (RU_self hRS).symm hRS s2 hb2 s3 s4 ⟨i2, i3, i4⟩ (fun j => ?_) (fun f r J P B x1 x2 x3 x4 x5 => ?_) (fun v w S J P B x1 x2 => ?_)
  · rw [r5, r6, r7, r8, z5, z6, z7, z8]
    exact ⟨rfl, rfl, rfl, rfl⟩
  · rw [eT] at x1
    have hE2 : EX (CU H K V W) (RU h1 (x + 1) p J P B) := RU_ex hE hx (by show hz H ≤ p; omega) (by rw [r5]; show hz H ≤ a; omega) (by rw [r6]; show hz H ≤ b; omega) (by rw [r7]; show hz H ≤ c; omega) (by rw [r8]; show hz H ≤ e; omega)
    have hf := hf f r _ x1 hE2
    have hS2 : CS (RU h1 (x + 1) p J P B) K (y + 1) := CS.ex (H := CU H K V W) hS hK hZ hE2
    have ecu := CU_ex hK hE2
    have e4 : hfI (RU h1 (x + 1) p J P B) 204 (x + 1) = f := (RU_q _).trans x4
    have e3 : hfI (RU h1 (x + 1) p J P B) 203 (x + 1) = nI r := (RU_q _).trans x3
    have kx := hK (x + 1) hx
    generalize RU h1 (x + 1) p J P B = h2 at *
    refine wmc (Wm := Wm) (L' := [some (.inr (.inr (7, y + 1))), some (.inr (.inr (3, x + 1)))]) (h' := CU h2 K V W) ?_ rfl ecu.symm
    refine go (cut1 25) 40 20 _ _ _ _ _ ?_
    refine wmc (Wm := Wm) ?_ rfl (CU_wI hS2.k hS2.y1 (by decide))
    have q4 : ∀ V, hfI (CU h2 K V W) 204 (x + 1) = f := fun V => (CU_fIo kx).trans e4
    have q3 : ∀ V, hfI (CU h2 K V W) 203 (x + 1) = nI r := fun V => (CU_fIo kx).trans e3
    refine go (cut1 40) 60 25 _ _ _ _ _ ?_
    refine And.intro (fun z => absurd ((q4 _).symm.trans z) x5) (fun _ => ?_)
    refine wmc (Wm := Wm) (h' := CU h2 K (up2 (up2 V 602 1 0) 603 1 f) W) ?_ rfl (by rw [q4]; exact CU_wI hS2.k hS2.y1 (by decide))
    refine go cut0 60 40 _ _ _ _ _ ?_
    refine kki hf ?_ rfl
    show -1000100 - hfI _ 203 (x + 1) = _
    rw [q3]
  · rw [eT] at x1
    have hE2 : EX (CU H K V W) (RU h1 (x + 1) p J P B) := RU_ex hE hx (by show hz H ≤ p; omega) (by rw [r5]; show hz H ≤ a; omega) (by rw [r6]; show hz H ≤ b; omega) (by rw [r7]; show hz H ≤ c; omega) (by rw [r8]; show hz H ≤ e; omega)
    have hg := fun H2 V' W' => hg v w S H2 V' W' p x1
    have hS2 : CS (RU h1 (x + 1) p J P B) K (y + 1) := CS.ex (H := CU H K V W) hS hK hZ hE2
    have ecu := CU_ex hK hE2
    obtain ⟨-, -, g4, ⟨ga, gb⟩, ⟨gc, gc8⟩, ⟨gd, gd12⟩, ⟨ge, ge4⟩, j5, j6, j7, j8, j9⟩ := x2
    have e4 : hfI (RU h1 (x + 1) p J P B) 204 (x + 1) = 0 := (RU_q _).trans g4
    have e200 : hfR (RU h1 (x + 1) p J P B) 200 (x + 1) = p := s0
    have kx := hK (x + 1) hx
    have kp := hK p (by omega)
    have t5 : hfR (RU h1 (x + 1) p J P B) 105 p = a := r5
    have t6 : hfR (RU h1 (x + 1) p J P B) 106 p = b := r6
    have t7 : hfR (RU h1 (x + 1) p J P B) 107 p = c := r7
    have t8 : hfR (RU h1 (x + 1) p J P B) 108 p = e := r8
    have hPP : PP (RU h1 (x + 1) p J P B) K p := by
      unfold PP
      rw [t5, t6, t7, t8]
      exact ⟨⟨by omega, kp⟩, ⟨by omega, hK a (by omega), l5⟩, ⟨by omega, hK b (by omega), l6⟩, ⟨by omega, hK c (by omega), l7⟩, ⟨by omega, hK e (by omega), l8⟩⟩
    have hPZ : PZ (RU h1 (x + 1) p J P B) p := by
      unfold PZ
      rw [t5, t6, t7, t8]
      show p < hz h1 ∧ a < hz h1 ∧ b < hz h1 ∧ c < hz h1 ∧ e < hz h1
      exact ⟨by omega, by omega, by omega, by omega, o5⟩
    have hpi : ∀ f, hfI (RU h1 (x + 1) p J P B) f p = P f := fun f => RU_p hRS f
    have hpa : ∀ f, (f = 105 ∨ f = 106 ∨ f = 107 ∨ f = 108) → haI (RU h1 (x + 1) p J P B) (hfR (RU h1 (x + 1) p J P B) f p) = B f := fun f hf => RU_B hRS hf
    generalize RU h1 (x + 1) p J P B = h2 at *
    refine wmc (Wm := Wm) (L' := [some (.inr (.inr (7, y + 1))), some (.inr (.inr (3, x + 1)))]) (h' := CU h2 K V W) ?_ rfl ecu.symm
    refine go (cut1 25) 40 20 _ _ _ _ _ ?_
    refine wmc (Wm := Wm) ?_ rfl (CU_wI hS2.k hS2.y1 (by decide))
    have q4 : ∀ V, hfI (CU h2 K V W) 204 (x + 1) = 0 := fun V => (CU_fIo kx).trans e4
    refine go (cut1 56) 60 25 _ _ _ _ _ ?_
    refine And.intro (fun _ => ?_) (fun z => absurd (q4 _) z)
    refine wmc (Wm := Wm) (h' := CU (wfR h2 605 (y + 1) p) K (up2 V 602 1 0) W) ?_ rfl (by rw [show hfR (CU h2 K (up2 V 602 1 0) W) 200 (x + 1) = p from e200]; rfl)
    have hS3 := hS2.wpl hPP
    have hPP3 : PP (wfR h2 605 (y + 1) p) K p := hPP
    have hPZ3 : PZ (wfR h2 605 (y + 1) p) p := hPZ
    have hpi3 : ∀ f, hfI (wfR h2 605 (y + 1) p) f p = P f := hpi
    have hpa3 : ∀ f, (f = 105 ∨ f = 106 ∨ f = 107 ∨ f = 108) → haI (wfR h2 605 (y + 1) p) (hfR (wfR h2 605 (y + 1) p) f p) = B f := by
      rintro f (rfl | rfl | rfl | rfl)
      · exact hpa 105 (by decide)
      · exact hpa 106 (by decide)
      · exact hpa 107 (by decide)
      · exact hpa 108 (by decide)
    have e605 : hfR (wfR h2 605 (y + 1) p) 605 (y + 1) = p := wfR_eq
    have t53 : hfR (wfR h2 605 (y + 1) p) 105 p = a := t5
    have t63 : hfR (wfR h2 605 (y + 1) p) 106 p = b := t6
    have t73 : hfR (wfR h2 605 (y + 1) p) 107 p = c := t7
    have t83 : hfR (wfR h2 605 (y + 1) p) 108 p = e := t8
    have hg := hg (wfR h2 605 (y + 1) p)
    have hEx : ∃ h2', EX (CU H K V W) h2' ∧ wfR h2 605 (y + 1) p = wfR h2' 605 (y + 1) p := ⟨h2, hE2, rfl⟩
    generalize wfR h2 605 (y + 1) p = H3 at *
    refine go cut0 60 56 _ _ _ _ _ ?_
    refine nz hS3.now.1.1 ?_
    refine c_begin hS3.k ((CU_e _ _ _ _ _ _).trans e605) hPP3 (CU_e _ _ _ _ _ _) hS3.now (fun V' W' y1 y2 y3 y4 y5 y6 => ?_)
    have ep : hfR (CU H3 K (up2 V' 609 1 0) W') 605 (y + 1) = p := e605
    have hh : wfI (CU H3 K V' W') 609 (y + 1) 0 = CU H3 K (up2 V' 609 1 0) W' := CU_wI hS3.k hS3.y1 (by decide)
    have ep2 : hfR (wfI (CU H3 K V' W') 609 (y + 1) 0) 605 (y + 1) = p := e605
    refine nz (by rw [ep2, ]; omega) ?_
    refine kki (hg (up2 V' 609 1 0) W' ⟨hEx, ⟨hPP3, hPZ3⟩, ⟨(hpi3 _).trans ga, (hpi3 _).trans gb, (hpi3 _).trans gc, (hpi3 _).trans gd, (hpi3 _).trans ge⟩, fun j => ⟨?_, ?_, ?_⟩, ⟨gc8, gd12, ge4⟩, ⟨fun f t ht => ?_, ?_, ?_⟩, ⟨fun t h1 h2 => y4 t h1 h2, fun j hj => ?_, y6⟩, j9, by omega, by rw [t53]; omega, by rw [t63]; omega, by rw [t73]; omega, by rw [t83]; omega⟩) ?_ hh
    · show haI H3 (hfR H3 106 p) j = _
      rw [hpa3 106 (by decide)]; exact j6 j
    · show haI H3 (hfR H3 107 p) j = _
      rw [hpa3 107 (by decide)]; exact j7 j
    · show haI H3 (hfR H3 108 p) j = _
      rw [hpa3 108 (by decide)]; exact j8 j
    · exact up2_cg (y1 f t ht)
    · rw [up2_nf (by decide)]; exact y2
    · rw [up2_nf (by decide)]; exact y3
    · rw [y5 j hj]
      show haI H3 (hfR H3 105 p) j = _
      rw [hpa3 105 (by decide)]; exact j5 j
    · rw [hh, ep, CU_fIo kp]
      exact (hpi3 _).trans gc
end N4
