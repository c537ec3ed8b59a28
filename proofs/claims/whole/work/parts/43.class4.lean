/-! ===== the class: its object, and what is done ===== -/
def AR (H : hp) (K : Nat → Nat) (a s m : Nat) : Prop := a ≠ 0 ∧ K a = s ∧ haL H a = m
/-- p is the plan q: 0 the castle's, 1 and 2 the images', 3 the reader's -/
def PQ (H : hp) (K : Nat → Nat) (p q : Nat) : Prop := (p ≠ 0 ∧ K p = 410 + q ∧ q < 4) ∧ AR H K (hfR H 105 p) (420 + 10 * q) 8 ∧ AR H K (hfR H 106 p) (421 + 10 * q) 8 ∧ AR H K (hfR H 107 p) (422 + 10 * q) 8 ∧ AR H K (hfR H 108 p) (423 + 10 * q) 4 ∧ AR H K (hfR H 109 p) (424 + 10 * q) 4
theorem PQ.pp {H : hp} {K : Nat → Nat} {p q : Nat} (h : PQ H K p q) : PP H K p := by
  obtain ⟨⟨a1, a2, a3⟩, ⟨b1, b2, b3⟩, ⟨c1, c2, c3⟩, -, ⟨d1, d2, d3⟩, ⟨e1, e2, e3⟩⟩ := h
  exact ⟨⟨a1, by omega⟩, ⟨b1, by omega, b3⟩, ⟨c1, by omega, c3⟩, ⟨d1, by omega, d3⟩, ⟨e1, by omega, e3⟩⟩
/-- q is the row r -/
def RW1 (H : hp) (K : Nat → Nat) (q r : Nat) : Prop := q ≠ 0 ∧ K q = 310 + r ∧ AR H K (hfR H 300 q) (300 + r) 40 ∧ r < 8
/-- z is the reader -/
def RDR (H : hp) (K : Nat → Nat) (z : Nat) : Prop := (z ≠ 0 ∧ K z = 9) ∧ AR H K (hfR H 201 z) 4 120 ∧ PQ H K (hfR H 200 z) 3
def CS (H : hp) (K : Nat → Nat) (y : Nat) : Prop := (KI K ∧ K y = 1) ∧ PQ H K (hfR H 604 y) 0 ∧ SS H K (hfR H 605 y) 0 ∧ RDR H K (hfR H 601 y) ∧ (AR H K (hfR H 606 y) 51 24 ∧ ∀ i, i < 24 → SS H K (haR H (hfR H 606 y) i) (1 + i)) ∧ (AR H K (hfR H 609 y) 52 2 ∧ ∀ i, i < 2 → PQ H K (haR H (hfR H 609 y) i) (1 + i)) ∧ (AR H K (hfR H 610 y) 53 2 ∧ ∀ i, i < 2 → SS H K (haR H (hfR H 610 y) i) (25 + i)) ∧ SS H K (hfR H 611 y) 27 ∧ ((hfR H 612 y ≠ 0 ∧ K (hfR H 612 y) = 2) ∧ SS H K (hfR H 400 (hfR H 612 y)) 28 ∧ AR H K (hfR H 401 (hfR H 612 y)) 6 4 ∧ AR H K (hfR H 402 (hfR H 612 y)) 7 4 ∧ AR H K (hfR H 403 (hfR H 612 y)) 8 4) ∧ ((hfR H 613 y ≠ 0 ∧ K (hfR H 613 y) = 3) ∧ AR H K (hfR H 0 (hfR H 613 y)) 5 16) ∧ (AR H K (hfR H 600 y) 50 8 ∧ ∀ r, r < 8 → RW1 H K (haR H (hfR H 600 y) r) r)
section C4
variable {H : hp} {K : Nat → Nat} {y : Nat}
theorem CS.k (h : CS H K y) : KI K := h.1.1
theorem CS.y1 (h : CS H K y) : K y = 1 := h.1.2
theorem CS.pl0 (h : CS H K y) : PQ H K (hfR H 604 y) 0 := h.2.1
theorem CS.pl (h : CS H K y) : PP H K (hfR H 604 y) := h.2.1.pp
theorem CS.now (h : CS H K y) : SS H K (hfR H 605 y) 0 := h.2.2.1
theorem CS.rdr (h : CS H K y) : RDR H K (hfR H 601 y) := h.2.2.2.1
theorem CS.ahead (h : CS H K y) : AR H K (hfR H 606 y) 51 24 ∧ ∀ i, i < 24 → SS H K (haR H (hfR H 606 y) i) (1 + i) := h.2.2.2.2.1
theorem CS.ipl (h : CS H K y) : AR H K (hfR H 609 y) 52 2 := h.2.2.2.2.2.1.1
theorem CS.ips (h : CS H K y) : ∀ i, i < 2 → PQ H K (haR H (hfR H 609 y) i) (1 + i) := h.2.2.2.2.2.1.2
theorem CS.ist (h : CS H K y) : AR H K (hfR H 610 y) 53 2 ∧ ∀ i, i < 2 → SS H K (haR H (hfR H 610 y) i) (25 + i) := h.2.2.2.2.2.2.1
theorem CS.fore (h : CS H K y) : SS H K (hfR H 611 y) 27 := h.2.2.2.2.2.2.2.1
theorem CS.sea (h : CS H K y) : (hfR H 612 y ≠ 0 ∧ K (hfR H 612 y) = 2) ∧ SS H K (hfR H 400 (hfR H 612 y)) 28 ∧ AR H K (hfR H 401 (hfR H 612 y)) 6 4 ∧ AR H K (hfR H 402 (hfR H 612 y)) 7 4 ∧ AR H K (hfR H 403 (hfR H 612 y)) 8 4 := h.2.2.2.2.2.2.2.2.1
theorem CS.ask (h : CS H K y) : (hfR H 613 y ≠ 0 ∧ K (hfR H 613 y) = 3) ∧ AR H K (hfR H 0 (hfR H 613 y)) 5 16 := h.2.2.2.2.2.2.2.2.2.1
theorem CS.rows (h : CS H K y) : AR H K (hfR H 600 y) 50 8 := h.2.2.2.2.2.2.2.2.2.2.1
theorem CS.rw (h : CS H K y) : ∀ r, r < 8 → RW1 H K (haR H (hfR H 600 y) r) r := h.2.2.2.2.2.2.2.2.2.2.2
end C4
section C5
variable {d y n cm : Nat} {H : hp} {K : Nat → Nat} {V W : Nat → Nat → Int32} {kk : Rt}
theorem c_found {f : Int32} (hS : CS H K (y + 1)) (hk : kk (some (.inl (-1000010 - f))) (CU H K (up2 V 603 1 f) W)) : CL d mX6_found 0 0 [.inr (.inr (7, y + 1)), .inl f] (CU H K V W) kk :=
  mw T_X6_found (fun Wm go => go cut0 30 0 _ _ _ _ _ (kki hk rfl (CU_wI hS.k hS.y1 (by decide))))
theorem c_foundNone {f : Int32} (hS : CS H K (y + 1)) (hk : kk (some (.inl f)) (CU H K (up2 V 603 1 0) W)) : CL d mX6_foundNone 0 0 [.inr (.inr (7, y + 1)), .inl f] (CU H K V W) kk :=
  mw T_X6_foundNone (fun Wm go => go cut0 30 0 _ _ _ _ _ (kki hk rfl (CU_wI hS.k hS.y1 (by decide))))
theorem c_fault (hS : CS H K (y + 1)) (hk : kk (some (.inl (V 602 1))) (CU H K V W)) : CL d mX6_fault 0 0 [.inr (.inr (7, y + 1))] (CU H K V W) kk :=
  mw T_X6_fault (fun Wm go => go cut0 30 0 _ _ _ _ _ (kki hk (CU_fI hS.y1 (by decide)) rfl))
theorem c_status (hS : CS H K (y + 1)) (hk : kk (some (.inl (V 603 1))) (CU H K V W)) : CL d mX6_status 0 0 [.inr (.inr (7, y + 1))] (CU H K V W) kk :=
  mw T_X6_status (fun Wm go => go cut0 30 0 _ _ _ _ _ (kki hk (CU_fI hS.y1 (by decide)) rfl))
theorem c_hasCastle (hS : CS H K (y + 1)) (hn : Pn H (hfR H 604 (y + 1)) n cm) (ht : 0 < n → kk (some (.inl 1)) (CU H K V W)) (hf : n = 0 → kk (some (.inl 0)) (CU H K V W)) : CL d mX6_hasCastle 0 0 [.inr (.inr (7, y + 1))] (CU H K V W) kk := by
  refine mw T_X6_hasCastle (fun Wm go => go cut0 30 0 _ _ _ _ _ ?_)
  have := hn.1.2
  refine nz hS.pl.1.1 ?_
  refine icg (b := n) (a := 0) rfl ((CU_fIo hS.pl.1.2).trans hn.1.1) (by omega) (by omega) (fun c => And.intro (Or.inl rfl) (hf (by omega))) (fun c => And.intro (Or.inr rfl) (ht c))
theorem c_standingNow (hS : CS H K (y + 1)) (hn : Pn H (hfR H 604 (y + 1)) n cm) (hk : kk (some (.inl (stC H (hfR H 604 (y + 1)) n W 0))) (CU H K V W)) : CL (d + 1) mX6_standingNow 0 0 [.inr (.inr (7, y + 1))] (CU H K V W) kk := by
  refine mw T_X6_standingNow (fun Wm go => go cut0 30 0 _ _ _ _ _ ?_)
  refine nz hS.now.1.1 ?_
  refine c_withChalk (CU_e _ _ _ _ _ _) hS.now ?_
  refine nz hS.pl.1.1 ?_
  refine c_standing (CU_e _ _ _ _ _ _) hS.pl hn ?_
  rw [stC_e hn.1.2]
  exact hk
/-- what would stand, were some BLOCKs gone -/
abbrev stX (H : hp) (p n : Nat) (W : Nat → Nat → Int32) (set : Int32) : Int32 := stP (pA H p 106) (fun k => posB (W 100) k && !decide (hasB set (nI k))) n
theorem stX_e {on c : Nat → Int32} {n : Nat} {set : Int32} (hn : n ≤ 8) : stP on (fun k => decide (hasB (mkS (posB c) 8 &&& (set ^^^ (-1))) (nI k))) n = stP on (fun k => posB c k && !decide (hasB set (nI k))) n := by
  refine stP_congr (fun k hk => ⟨rfl, ?_⟩)
  have := mkS_bit (q := posB c) (k := k) (by omega) (n := 8) (by omega)
  rw [Bool.eq_iff_iff, decide_eq_true_iff, hasB_and _ _ (by omega), hasB_not _ (by omega), this, Bool.and_eq_true, Bool.not_eq_true', decide_eq_false_iff_not]
  exact ⟨fun z => ⟨z.1.2, z.2⟩, fun z => ⟨⟨by omega, z.1⟩, z.2⟩⟩
theorem c_fallingWithout {set : Int32} (hS : CS H K (y + 1)) (hn : Pn H (hfR H 604 (y + 1)) n cm) (hk : kk (some (.inl (stC H (hfR H 604 (y + 1)) n W 0 &&& (stX H (hfR H 604 (y + 1)) n W set ^^^ (-1))))) (CU H K V W)) : CL (d + 1) mX6_fallingWithout 0 0 [.inr (.inr (7, y + 1)), .inl set] (CU H K V W) kk := by
  refine mw T_X6_fallingWithout (fun Wm go => go cut0 60 0 _ _ _ _ _ ?_)
  refine nz hS.now.1.1 ?_
  refine c_withChalk (CU_e _ _ _ _ _ _) hS.now ?_
  refine nz hS.pl.1.1 ?_
  refine c_standing (CU_e _ _ _ _ _ _) hS.pl hn ?_
  refine nz hS.pl.1.1 ?_
  refine c_standing (CU_e _ _ _ _ _ _) hS.pl hn ?_
  rw [stC_e hn.1.2]
  refine kki hk ?_ rfl
  show _ &&& (_ ^^^ _) = _
  congr 2
  exact stX_e hn.1.2
/-- an act begins: the State is kept ahead of it -/
abbrev baV (V : Nat → Nat → Int32) (at' am : Nat) : Nat → Nat → Int32 := up2 (up2 (beV V (1 + at') 0) 607 1 (nI ((at' + 1) % 24))) 608 1 (nI (if am + 1 < 24 then am + 1 else 24))
theorem c_beginAct {at' am : Nat} (hS : CS H K (y + 1)) (ha : V 607 1 = nI at') (ha24 : at' < 24) (hm : V 608 1 = nI am) (hm24 : am ≤ 24) (hk : kk none (CU H K (baV V at' am) (beW W (1 + at') 0))) : CL (d + 2) mX6_beginAct 0 0 [.inr (.inr (7, y + 1))] (CU H K V W) kk := by
  obtain ⟨⟨q1, q2, q3⟩, q4⟩ := hS.ahead
  refine mw T_X6_beginAct (fun Wm go => go (cut2 16 36) 60 0 _ _ _ _ _ ?_)
  have e8 : hfI (CU H K V W) 607 (y + 1) = nI at' := (CU_fI hS.y1 (by decide)).trans ha
  refine nz q1 (And.intro ?_ ?_)
  · show vp_in (hfI (CU H K V W) 607 (y + 1)) (haL H (hfR H 606 (y + 1)))
    rw [e8, q3]; exact vp_in_nI ha24 (by omega)
  have ei : haR (CU H K V W) (hfR (CU H K V W) 606 (y + 1)) (hfI (CU H K V W) 607 (y + 1)).toNatClampNeg = haR H (hfR H 606 (y + 1)) at' := by
    rw [e8, nI_clamp (by omega)]; rfl
  refine nz (by rw [ei]; exact (q4 at' ha24).1.1) ?_
  refine c_become hS.k ei (q4 at' ha24) (CU_e _ _ _ _ _ _) hS.now ?_
  have v8 : beV V (1 + at') 0 607 1 = nI at' := ha
  have v9 : beV V (1 + at') 0 608 1 = nI am := hm
  unfold baV at hk
  generalize beV V (1 + at') 0 = V1 at *
  generalize beW W (1 + at') 0 = W1 at *
  have fin : ∀ v : Int32, v = nI ((at' + 1) % 24) → Wm 36 [some (.inr (.inr (7, y + 1)))] [.inl v, .inr (.inr (7, y + 1))] (CU H K V1 W1) 0 0 := by
    intro v hv
    subst hv
    refine go (cut1 39) 60 36 _ _ _ _ _ ?_
    refine wmc (Wm := Wm) ?_ rfl (CU_wI hS.k hS.y1 (by decide))
    refine go cut0 60 39 _ _ _ _ _ ?_
    refine kkc hk rfl ?_
    rw [CU_wI hS.k hS.y1 (by decide), CU_fI hS.y1 (by decide)]
    have e9 : up2 V1 607 1 (nI ((at' + 1) % 24)) 608 1 = nI am := by rw [← v9]; unfold up2; rw [if_neg (by decide)]
    rw [e9]
    congr 2
    show (if nI am + 1 < 24 then nI am + 1 else 24) = _
    rw [nI_1]
    by_cases c : am + 1 < 24
    · rw [if_pos c, if_pos]
      exact Int32.not_le.mp (fun z => Nat.not_le.mpr c ((nI_leI (a := 24) (by omega) (by omega)).mp z))
    · rw [if_neg c, if_neg]
      · rfl
      · exact Int32.not_lt.mpr ((nI_leI (a := 24) (by omega) (by omega)).mpr (by omega))
  refine go (cut1 36) 60 16 _ _ _ _ _ ?_
  have e8 : hfI (CU H K V1 W1) 607 (y + 1) = nI at' := (CU_fI hS.y1 (by decide)).trans v8
  refine cq (b := 23) e8 (by omega) (by omega) (fun c => ?_) (fun c => ?_)
  · exact fin 0 (by rw [c]; rfl)
  · refine fin _ ?_
    rw [e8]
    show nI at' + 1 = _
    rw [nI_1, Nat.mod_eq_of_lt (by omega)]
theorem baV_2 (V : Nat → Nat → Int32) (at' am : Nat) : baV V at' am 502 10 = V 502 10 := by
  show (if 10 = 10 + (1 + at') then _ else V 502 10) = _
  rw [if_neg (by omega)]
theorem baV_3 (V : Nat → Nat → Int32) (at' am : Nat) : baV V at' am 503 10 = V 503 10 := by
  show (if 10 = 10 + (1 + at') then _ else V 503 10) = _
  rw [if_neg (by omega)]
theorem beW_c (W : Nat → Nat → Int32) (at' : Nat) (h : at' < 24) : beW W (1 + at') 0 100 = W 100 := by
  show va_up (va_up W (100 + (1 + at')) _) (200 + (1 + at')) _ 100 = _
  rw [va_up_ne _ _ (by omega), va_up_ne _ _ (by omega)]
theorem beW_l (W : Nat → Nat → Int32) (at' : Nat) (h : at' < 24) : beW W (1 + at') 0 200 = W 200 := by
  show va_up (va_up W (100 + (1 + at')) _) (200 + (1 + at')) _ 200 = _
  rw [va_up_ne _ _ (by omega), va_up_ne _ _ (by omega)]
/-- who takes how much, by the plan p -/
abbrev tkC (H : hp) (p : Nat) (V : Nat → Nat → Int32) (c : Nat) (lines : Int32) : Int32 := tkB (pA H p 108 c) (pA H p 109 c) lines (V 503 10)
set_option maxRecDepth 20000 in
theorem c_write {cl li bl : Int32} {at' am : Nat} (hS : CS H K (y + 1)) (hn : Pn H (hfR H 604 (y + 1)) n cm) (ha : V 607 1 = nI at') (ha24 : at' < 24) (hm : V 608 1 = nI am) (hm24 : am ≤ 24)
    (hb : ¬ (inB cl cm ∧ inR li 1 30 ∧ inB bl n) → kk (some (.inl eBAD)) (CU H K V W))
    (hs : ∀ c b, c < cm → b < n → cl = nI c → bl = nI b → inR li 1 30 → W 100 b < tkC H (hfR H 604 (y + 1)) V c li → kk (some (.inl eSTATE)) (CU H K V W))
    (hg : ∀ c b V' W', c < cm → b < n → cl = nI c → bl = nI b → inR li 1 30 → ¬ W 100 b < tkC H (hfR H 604 (y + 1)) V c li → V' = up2 (baV V at' am) 502 10 (V 502 10 + tkC H (hfR H 604 (y + 1)) V c li) → W' = va_up (va_up (beW W (1 + at') 0) 100 (upd (W 100) b (W 100 b - tkC H (hfR H 604 (y + 1)) V c li))) 200 (upd (W 200) c (W 200 c + li)) → kk (some (.inl (tkC H (hfR H 604 (y + 1)) V c li))) (CU H K V' W')) : CL (d + 3) mX6_write 0 0 [.inr (.inr (7, y + 1)), .inl cl, .inl li, .inl bl] (CU H K V W) kk := by
  have n8 := hn.1.2
  have c4 := hn.2.2
  obtain ⟨⟨a1, a2, a3⟩, ⟨a4, a5, a6⟩, ⟨a7, a8, a9⟩⟩ := hS.now
  refine mw T_X6_write (fun Wm go => go (cut1 67) 80 0 _ _ _ _ _ ?_)
  refine nz hS.pl.1.1 ?_
  refine c_hasClerk (CU_e _ _ _ _ _ _) hS.pl hn (fun q1 => br1 ?_) (fun q1 => br0 (hb (fun z => q1 z.1)))
  refine c_isLines (fun q2 => br1 ?_) (fun q2 => br0 (hb (fun z => q2 z.2.1)))
  refine nz hS.pl.1.1 ?_
  refine c_hasBlock (CU_e _ _ _ _ _ _) hS.pl hn (fun q3 => br1 ?_) (fun q3 => br0 (hb (fun z => q3 z.2.2)))
  obtain ⟨c, hc, rfl⟩ := inB_of q1 (by omega)
  obtain ⟨b, hbn, rfl⟩ := inB_of q3 (by omega)
  refine nz a1 ?_
  refine nz hS.pl.1.1 ?_
  refine c_chalkFor (CU_e _ _ _ _ _ _) hS.pl (by omega) ?_
  refine nz a1 ?_
  refine cld a4 a5 (by decide) a6 (by omega) b rfl (by omega) ?_
  have ed : hfI (CU H K V W) 503 (hfR (CU H K V W) 605 (y + 1)) = V 503 10 := CU_fI a2 (by decide)
  refine And.intro (fun q4 => ?_) (fun q4 => ?_)
  · have q4 : tkB (pA H (hfR H 604 (y + 1)) 108 c) (pA H (hfR H 604 (y + 1)) 109 c) li (hfI (CU H K V W) 503 (hfR (CU H K V W) 605 (y + 1))) ≤ W 100 b := q4
    rw [ed] at q4
    have hg := fun V' W' => hg c b V' W' hc hbn rfl rfl q2 (Int32.not_lt.mpr q4)
    rw [ed]
    refine go cut0 80 67 _ _ _ _ _ ?_
    refine c_beginAct hS ha ha24 hm hm24 ?_
    refine nz a1 ?_
    refine c_useUp hS.k (CU_e _ _ _ _ _ _) hS.now (by omega) ?_
    refine nz a1 ?_
    refine cld a7 a8 (by decide) a9 (by omega) c rfl (by omega) ?_
    refine cst hS.k a7 a8 (by decide) a9 (by omega) c rfl (by omega) ?_
    refine hg _ _ ?_ ?_
    · show up2 _ 502 10 (baV V at' am 502 10 + _) = _
      rw [baV_2]
    · have e2 : ∀ g, va_up (beW W (1 + at') 0) 100 g 200 = W 200 := fun g => by rw [va_up_ne _ _ (by decide), beW_l W at' ha24]
      show va_up (va_up (beW W (1 + at') 0) 100 (upd (beW W (1 + at') 0 100) b (beW W (1 + at') 0 100 b - _))) 200 (upd (va_up (beW W (1 + at') 0) 100 _ 200) c (va_up (beW W (1 + at') 0) 100 _ 200 c + li)) = _
      rw [e2, beW_c W at' ha24]
  · have q4 : ¬ tkB (pA H (hfR H 604 (y + 1)) 108 c) (pA H (hfR H 604 (y + 1)) 109 c) li (hfI (CU H K V W) 503 (hfR (CU H K V W) 605 (y + 1))) ≤ W 100 b := q4
    rw [ed] at q4
    exact hs c b hc hbn rfl rfl q2 (Int32.not_le.mp q4)
end C5
