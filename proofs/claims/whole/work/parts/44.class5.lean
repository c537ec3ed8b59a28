/-! ===== the class: acts and questions ===== -/
section C6
variable {d y n cm at' am : Nat} {H : hp} {K : Nat → Nat} {V W : Nat → Nat → Int32} {kk : Rt}
theorem lst30 (v : Int32) : (if v < 30 then v else 30) = leastI 30 v := by
  unfold leastI
  by_cases c : (30 : Int32) < v
  · rw [if_pos c, if_neg (fun z => Int32.lt_irrefl (Int32.lt_trans c z))]
  · rw [if_neg c]
    by_cases c2 : v < 30
    · rw [if_pos c2]
    · rw [if_neg c2]
      exact Int32.le_antisymm (Int32.not_lt.mp c2) (Int32.not_lt.mp c)
set_option maxRecDepth 20000 in
theorem c_rub {li bl : Int32} (hS : CS H K (y + 1)) (hn : Pn H (hfR H 604 (y + 1)) n cm) (ha : V 607 1 = nI at') (ha24 : at' < 24) (hm : V 608 1 = nI am) (hm24 : am ≤ 24)
    (hb : ¬ (inR li 1 60 ∧ inB bl n) → kk (some (.inl eBAD)) (CU H K V W))
    (hs : ∀ b, b < n → bl = nI b → inR li 1 60 → V 502 10 < li → kk (some (.inl eSTATE)) (CU H K V W))
    (hg : ∀ b V' W', b < n → bl = nI b → inR li 1 60 → ¬ V 502 10 < li → V' = up2 (baV V at' am) 502 10 (V 502 10 - li) → W' = va_up (beW W (1 + at') 0) 100 (upd (W 100) b (leastI 30 (W 100 b + li * pI H (hfR H 604 (y + 1)) 101 / 10))) → kk (some (.inl (leastI 30 (W 100 b + li * pI H (hfR H 604 (y + 1)) 101 / 10)))) (CU H K V' W')) : CL (d + 3) mX6_rub 0 0 [.inr (.inr (7, y + 1)), .inl li, .inl bl] (CU H K V W) kk := by
  have n8 := hn.1.2
  obtain ⟨⟨a1, a2, a3⟩, ⟨a4, a5, a6⟩, -⟩ := hS.now
  refine mw T_X6_rub (fun Wm go => go (cut1 39) 80 0 _ _ _ _ _ ?_)
  refine And.intro (fun q1 => hb (fun z => Int32.not_lt.mpr z.1.1 q1)) (fun q1 => And.intro (fun q2 => hb (fun z => Int32.not_lt.mpr z.1.2 q2)) (fun q2 => ?_))
  have qr : inR li 1 60 := ⟨Int32.not_lt.mp q1, Int32.not_lt.mp q2⟩
  refine nz hS.pl.1.1 ?_
  refine c_hasBlock (CU_e _ _ _ _ _ _) hS.pl hn (fun q3 => br1 ?_) (fun q3 => br0 (hb (fun z => q3 z.2)))
  obtain ⟨b, hbn, rfl⟩ := inB_of q3 (by omega)
  refine nz a1 ?_
  have ed : ∀ V W, hfI (CU H K V W) 502 (hfR (CU H K V W) 605 (y + 1)) = V 502 10 := fun V W => CU_fI a2 (by decide)
  refine And.intro (fun q4 => ?_) (fun q4 => ?_)
  · have q4 : li ≤ hfI (CU H K V W) 502 (hfR (CU H K V W) 605 (y + 1)) := q4
    rw [ed] at q4
    have hg := fun V' W' => hg b V' W' hbn rfl qr (Int32.not_lt.mpr q4)
    refine go (cut2 56 92) 80 39 _ _ _ _ _ ?_
    refine c_beginAct hS ha ha24 hm hm24 ?_
    refine nz a1 (nz a1 ?_)
    refine wmc (Wm := Wm) (h' := CU H K (up2 (baV V at' am) 502 10 (V 502 10 - li)) (beW W (1 + at') 0)) ?_ rfl ?_
    rotate_left
    · rw [ed, baV_2]
      exact CU_wI hS.k a2 (by decide)
    have hg := hg (up2 (baV V at' am) 502 10 (V 502 10 - li)) (va_up (beW W (1 + at') 0) 100 (upd (W 100) b (leastI 30 (W 100 b + li * pI H (hfR H 604 (y + 1)) 101 / 10)))) rfl rfl
    generalize up2 (baV V at' am) 502 10 (V 502 10 - li) = V1 at *
    have w1 := beW_c W at' ha24
    generalize beW W (1 + at') 0 = W1 at *
    refine go (cut1 92) 80 56 _ _ _ _ _ ?_
    refine nz a1 (nz a1 ?_)
    refine cld a4 a5 (by decide) a6 (by omega) b rfl (by omega) ?_
    refine nz hS.pl.1.1 (And.intro (by decide) ?_)
    refine cst hS.k a4 a5 (by decide) a6 (by omega) b rfl (by omega) ?_
    refine wmc (Wm := Wm) (h' := CU H K V1 (va_up W1 100 (upd (W 100) b (leastI 30 (W 100 b + li * pI H (hfR H 604 (y + 1)) 101 / 10))))) ?_ rfl ?_
    · refine go cut0 80 92 _ _ _ _ _ ?_
      refine nz a1 ?_
      refine cld a4 a5 (by decide) a6 (by omega) b rfl (by omega) ?_
      refine kki hg ?_ rfl
      show va_up W1 100 _ 100 b = _
      rw [va_up_self]
      exact if_pos rfl
    · have ep : hfI (CU H K V1 W1) 101 (hfR (CU H K V1 W1) 604 (y + 1)) = pI H (hfR H 604 (y + 1)) 101 := CU_fIo hS.pl.1.2
      rw [ep]
      show CU H K V1 (va_up W1 100 (upd (W1 100) b (if W1 100 b + li * pI H (hfR H 604 (y + 1)) 101 / 10 < 30 then W1 100 b + li * pI H (hfR H 604 (y + 1)) 101 / 10 else 30))) = _
      rw [w1, lst30]
  · have q4 : ¬ li ≤ hfI (CU H K V W) 502 (hfR (CU H K V W) 605 (y + 1)) := q4
    rw [ed] at q4
    exact hs b hbn rfl qr (Int32.not_le.mp q4)
theorem c_rain (hS : CS H K (y + 1)) (hn : Pn H (hfR H 604 (y + 1)) n cm) (ha : V 607 1 = nI at') (ha24 : at' < 24) (hm : V 608 1 = nI am) (hm24 : am ≤ 24) (hr : ∀ j, j < n → maxI 0 (W 100 j - pI H (hfR H 604 (y + 1)) 100) = if pI H (hfR H 604 (y + 1)) 100 < W 100 j then W 100 j - pI H (hfR H 604 (y + 1)) 100 else 0)
    (hs : n = 0 → kk (some (.inl eSTATE)) (CU H K V W))
    (hg : 0 < n → kk (some (.inl (stP (pA H (hfR H 604 (y + 1)) 106) (posB (rainF (W 100) (pA H (hfR H 604 (y + 1)) 106) (pI H (hfR H 604 (y + 1)) 100) n n)) n))) (CU H K (baV V at' am) (va_up (beW W (1 + at') 0) 100 (rainF (W 100) (pA H (hfR H 604 (y + 1)) 106) (pI H (hfR H 604 (y + 1)) 100) n n)))) : CL (d + 3) mX6_rain 0 0 [.inr (.inr (7, y + 1))] (CU H K V W) kk := by
  refine mw T_X6_rain (fun Wm go => go cut0 80 0 _ _ _ _ _ ?_)
  refine c_hasCastle hS hn (fun q => br1 ?_) (fun q => br0 (hs q))
  have hg := hg q
  refine c_beginAct hS ha ha24 hm hm24 ?_
  have w1 := beW_c W at' ha24
  generalize beW W (1 + at') 0 = W1 at *
  refine nz hS.pl.1.1 ?_
  refine c_letRain (s := 0) hS.k (CU_e _ _ _ _ _ _) hS.pl hn (CU_e _ _ _ _ _ _) hS.now ?_ ?_
  · show ∀ j, j < n → maxI 0 (W1 100 j - _) = _
    rw [w1]
    exact hr
  · refine c_standingNow hS hn ?_
    rw [← w1] at hg
    refine kki hg ?_ rfl
    show stP _ (posB (va_up W1 100 _ 100)) n = _
    rw [va_up_self]
theorem c_undo (hS : CS H K (y + 1)) (ha : V 607 1 = nI at') (ha24 : at' < 24) (hm : V 608 1 = nI am) (hm24 : am ≤ 24) (hs : am = 0 → kk (some (.inl eSTATE)) (CU H K V W))
    (hg : 0 < am → kk (some (.inl (nI (am - 1)))) (CU H K (up2 (beV (up2 V 607 1 (nI ((at' + 23) % 24))) 0 (1 + (at' + 23) % 24)) 608 1 (nI (am - 1))) (beW W 0 (1 + (at' + 23) % 24)))) : CL (d + 2) mX6_undo 0 0 [.inr (.inr (7, y + 1))] (CU H K V W) kk := by
  obtain ⟨⟨q1, q2, q3⟩, q4⟩ := hS.ahead
  refine mw T_X6_undo (fun Wm go => go (cut2 11 30) 80 0 _ _ _ _ _ ?_)
  have e8 : hfI (CU H K V W) 607 (y + 1) = nI at' := (CU_fI hS.y1 (by decide)).trans ha
  refine icg (a := am) (b := 1) ((CU_fI hS.y1 (by decide)).trans hm) rfl (by omega) (by omega) (fun c => ?_) (fun c => hs (by omega))
  have hg := hg (by omega)
  have b24 : (at' + 23) % 24 < 24 := Nat.mod_lt _ (by omega)
  have fin : ∀ v : Int32, v = nI ((at' + 23) % 24) → Wm 30 [some (.inr (.inr (7, y + 1)))] [.inl v, .inr (.inr (7, y + 1))] (CU H K V W) 0 0 := by
    intro v hv
    subst hv
    generalize (at' + 23) % 24 = bt at *
    refine go (cut1 33) 60 30 _ _ _ _ _ ?_
    refine wmc (Wm := Wm) ?_ rfl (CU_wI hS.k hS.y1 (by decide))
    have v8 : up2 V 607 1 (nI bt) 607 1 = nI bt := rfl
    have v9 : up2 V 607 1 (nI bt) 608 1 = nI am := hm
    generalize up2 V 607 1 (nI bt) = V1 at *
    refine go cut0 60 33 _ _ _ _ _ ?_
    have e8 : hfI (CU H K V1 W) 607 (y + 1) = nI bt := (CU_fI hS.y1 (by decide)).trans v8
    refine nz q1 (And.intro ?_ ?_)
    · show vp_in (hfI (CU H K V1 W) 607 (y + 1)) (haL H (hfR H 606 (y + 1)))
      rw [e8, q3]; exact vp_in_nI b24 (by omega)
    refine nz hS.now.1.1 ?_
    have ei : haR (CU H K V1 W) (hfR (CU H K V1 W) 606 (y + 1)) (hfI (CU H K V1 W) 607 (y + 1)).toNatClampNeg = haR H (hfR H 606 (y + 1)) bt := by
      rw [e8, nI_clamp (by omega)]; rfl
    refine c_become hS.k (CU_e _ _ _ _ _ _) hS.now ei (q4 bt b24) ?_
    have v9 : beV V1 0 (1 + bt) 608 1 = nI am := v9
    have em : nI am - 1 = nI (am - 1) := pk_sub (b := 1) (by omega)
    refine kki hg ?_ ?_
    · rw [CU_wI hS.k hS.y1 (by decide), CU_fI hS.y1 (by decide)]
      show hfI _ 608 _ - 1 = _
      rw [CU_fI hS.y1 (by decide), v9, em]
    · rw [CU_wI hS.k hS.y1 (by decide), CU_fI hS.y1 (by decide), v9]
      show CU H K (up2 _ 608 1 (nI am - 1)) _ = _
      rw [em]
  refine go (cut1 30) 60 11 _ _ _ _ _ ?_
  refine cq (b := 0) e8 (by omega) (by omega) (fun c2 => ?_) (fun c2 => ?_)
  · exact fin 23 (by rw [c2]; rfl)
  · refine fin _ ?_
    rw [e8]
    show nI at' - 1 = _
    rw [show nI at' - 1 = nI (at' - 1) from pk_sub (b := 1) (by omega)]
    congr 1
    omega
end C6
