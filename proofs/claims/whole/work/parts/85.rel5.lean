/-! ===== acts: the relation behind them ===== -/
section Q8
variable {H : hp} {K : Nat → Nat} {V W : Nat → Nat → Int32} {y x n cm at' am by' tm t : Nat} {I : Nat → Int32} {A : Nat → Nat → Int32} {rs : Nat → Option Nat}
theorem WS.congr {L : Nat} {a b : Nat → Int32} (h : WS n cm L a) (e : ∀ j, j < 14 → b j = a j) : WS n cm L b := by
  obtain ⟨h1, h2, h3⟩ := h
  refine ⟨fun j hj => ?_, fun c hc => ?_, ?_⟩
  · rw [e j (by omega)]; exact h1 j hj
  · rw [e (8 + c) (by omega)]; exact h2 c hc
  · rw [e 13 (by omega)]; exact h3
theorem eqS.congr {V' W' : Nat → Nat → Int32} {s : Nat} {a b : Nat → Int32} (h : eqS V W s a) (e1 : W' (100 + s) = W (100 + s)) (e2 : W' (200 + s) = W (200 + s)) (e3 : V' 502 (10 + s) = V 502 (10 + s)) (e4 : V' 503 (10 + s) = V 503 (10 + s)) (e : ∀ j, j < 14 → b j = a j) : eqS V' W' s b := by
  obtain ⟨h1, h2, h3, h4⟩ := h
  refine ⟨fun j hj => ?_, fun c hc => ?_, ?_, ?_⟩
  · rw [e1, e j (by omega)]; exact h1 j hj
  · rw [e2, e (8 + c) (by omega)]; exact h2 c hc
  · rw [e3, e 12 (by omega)]; exact h3
  · rw [e4, e 13 (by omega)]; exact h4
/-- the State t becomes the State s -/
theorem eqS.be {s u : Nat} {a b : Nat → Int32} (h : eqS V W s a) (e : ∀ j, j < 14 → b j = a j) : eqS (beV V u s) (beW W u s) u b := by
  obtain ⟨h1, h2, h3, h4⟩ := h
  refine ⟨fun j hj => ?_, fun c hc => ?_, ?_, ?_⟩
  · show va_up (va_up W (100 + u) (va_cpy (W (100 + s)) (W (100 + u)) 0 0 8)) (200 + u) _ (100 + u) j = _
    rw [va_up_ne _ _ (by omega), va_up_self, e j (by omega), ← h1 j hj]
    unfold va_cpy
    rw [if_pos (by omega)]
    congr 1
    omega
  · show va_up _ (200 + u) (va_cpy (W (200 + s)) (W (200 + u)) 0 0 4) (200 + u) c = _
    rw [va_up_self, e (8 + c) (by omega), ← h2 c hc]
    unfold va_cpy
    rw [if_pos (by omega)]
    congr 1
    omega
  · show up2 (up2 V 502 (10 + u) (V 502 (10 + s))) 503 (10 + u) _ 502 (10 + u) = _
    rw [up2_nf (by decide), up2_eq, e 12 (by omega)]; exact h3
  · show up2 (up2 V 502 (10 + u) (V 502 (10 + s))) 503 (10 + u) (V 503 (10 + s)) 503 (10 + u) = _
    rw [up2_eq, e 13 (by omega)]; exact h4
theorem beV_ne {u s f z : Nat} (hz' : z ≠ 10 + u) : beV V u s f z = V f z := by
  show up2 (up2 V 502 (10 + u) _) 503 (10 + u) _ f z = _
  rw [up2_nx hz', up2_nx hz']
theorem beW_ne {u s z : Nat} (h1 : z ≠ 100 + u) (h2 : z ≠ 200 + u) : beW W u s z = W z := by
  show va_up (va_up W (100 + u) _) (200 + u) _ z = _
  rw [va_up_ne _ _ h2, va_up_ne _ _ h1]
theorem baV_ne {f z : Nat} (hz' : z ≠ 11 + at') (h1 : z ≠ 1) : baV V at' am f z = V f z := by
  show up2 (up2 (beV V (1 + at') 0) 607 1 _) 608 1 _ f z = _
  rw [up2_nx h1, up2_nx h1, beV_ne (by omega)]
abbrev am1 (am : Nat) : Nat := if am + 1 < 24 then am + 1 else 24
theorem RD.act {V2 W2 : Nat → Nat → Int32} {a : Nat → Int32} (hR : RD H K V W y x I A n cm at' am by' tm rs t) (hV : ∀ f s, s ≠ 10 → V2 f s = baV V at' am f s) (hW : ∀ s, s ≠ 100 → s ≠ 200 → W2 s = beW W (1 + at') 0 s) (hS : eqS V2 W2 0 a) (hw : WS n cm (30 * t) a) : RD H K V2 W2 y x (remI I at') (va_up (remA A at') 715 a) n cm ((at' + 1) % 24) (am1 am) by' tm rs t := by
  obtain ⟨h1, ⟨i1, i2, ⟨i3, i3'⟩, ⟨i4, i4'⟩, i5, i6⟩, h3, h4, ⟨s0, s1⟩, ⟨⟨m1, m2, m3, m4, m5, m6⟩, m7, m8, m8b, m9⟩, h7, b1, b2, b3⟩ := hR
  have eA : ∀ f, f ≠ 715 → f ≠ 729 → va_up (remA A at') 715 a f = A f := fun f f1 f2 => by
    rw [va_up_ne _ _ f1]
    exact va_up_ne _ _ f2
  have e15 : va_up (remA A at') 715 a 715 = a := va_up_self _ _ _
  have e29 : va_up (remA A at') 715 a 729 = va_cpy (A 715) (A 729) 0 (14 * at') 14 := by
    rw [va_up_ne _ _ (by decide)]
    exact va_up_self _ _ _
  have same : ∀ i, i < 24 → i ≠ at' → ∀ j, j < 14 → va_cpy (A 715) (A 729) 0 (14 * at') 14 (14 * i + j) = A 729 (14 * i + j) := by
    intro i hi hne j hj
    unfold va_cpy
    rw [if_neg (by omega)]
  have new : ∀ j, j < 14 → va_cpy (A 715) (A 729) 0 (14 * at') 14 (14 * at' + j) = A 715 j := by
    intro j hj
    unfold va_cpy
    rw [if_pos (by omega)]
    congr 1
    omega
  have v1 : ∀ f, f ≠ 607 → f ≠ 608 → V2 f 1 = V f 1 := fun f f1 f2 => by
    rw [hV f 1 (by decide)]
    show up2 (up2 (beV V (1 + at') 0) 607 1 _) 608 1 _ f 1 = _
    rw [up2_nf f2, up2_nf f1, beV_ne (by omega)]
  refine ⟨h1, ⟨?_, ?_, ?_, ?_, ?_, ?_⟩, ?_, ?_, ⟨?_, fun i hi => ?_⟩, ⟨⟨?_, ?_, ?_, ?_, ?_, ?_⟩, ?_, fun j hj => ?_, fun r hr => ?_, fun r hr s hs => ?_⟩, fun k hk => ?_, ?_, fun k hk => ?_, ?_⟩
  · exact i1
  · exact i2
  · exact ⟨rfl, Nat.mod_lt _ (by decide)⟩
  · show leastI (I 727 + 1) 24 = nI (am1 am) ∧ am1 am ≤ 24
    rw [i4, nI_1]
    unfold am1
    by_cases c : am + 1 < 24
    · rw [if_pos c]
      exact ⟨if_pos ((nI_ltI (b := 24) (by omega) (by omega)).mpr c), by omega⟩
    · rw [if_neg c]
      exact ⟨if_neg (fun z => c ((nI_ltI (b := 24) (by omega) (by omega)).mp z)), by omega⟩
  · exact i5
  · exact i6
  · unfold RIn; rw [eA 701 (by decide) (by decide)]; exact h3
  · rw [eA 712 (by decide) (by decide), eA 714 (by decide) (by decide), eA 713 (by decide) (by decide)]; exact h4
  · rw [e15]; exact hS
  · rw [e29]
    by_cases c : i = at'
    · subst c
      have q := eqS.be (V := V) (W := W) (u := 1 + i) s0 (b := fun j => va_cpy (A 715) (A 729) 0 (14 * i) 14 (14 * i + j)) (fun j hj => new j hj)
      refine q.congr (hW _ (by omega) (by omega)) (hW _ (by omega) (by omega)) ?_ ?_ (fun _ _ => rfl)
      · rw [hV 502 _ (by omega)]
        show up2 (up2 (beV V (1 + i) 0) 607 1 _) 608 1 _ 502 _ = _
        rw [up2_nf (by decide), up2_nf (by decide)]
      · rw [hV 503 _ (by omega)]
        show up2 (up2 (beV V (1 + i) 0) 607 1 _) 608 1 _ 503 _ = _
        rw [up2_nf (by decide), up2_nf (by decide)]
    · refine (s1 i hi).congr ?_ ?_ ?_ ?_ (fun j hj => same i hi c j hj)
      · rw [hW _ (by omega) (by omega), beW_ne (by omega) (by omega)]
      · rw [hW _ (by omega) (by omega), beW_ne (by omega) (by omega)]
      · rw [hV _ _ (by omega), baV_ne (by omega) (by omega)]
      · rw [hV _ _ (by omega), baV_ne (by omega) (by omega)]
  · rw [hV 607 1 (by decide)]
    show up2 (up2 (beV V (1 + at') 0) 607 1 _) 608 1 _ 607 1 = nI ((at' + 1) % 24)
    rw [up2_nf (by decide), up2_eq]
  · rw [hV 608 1 (by decide)]
    show up2 (up2 (beV V (1 + at') 0) 607 1 _) 608 1 (nI (am1 am)) 608 1 = leastI (I 727 + 1) 24
    rw [up2_eq, i4, nI_1]
    unfold am1
    by_cases c : am + 1 < 24
    · rw [if_pos c]
      exact (if_pos ((nI_ltI (b := 24) (by omega) (by omega)).mpr c)).symm
    · rw [if_neg c]
      exact (if_neg (fun z => c ((nI_ltI (b := 24) (by omega) (by omega)).mp z))).symm
  · rw [hV 202 9 (by decide), baV_ne (by omega) (by decide)]; exact m3
  · rw [v1 602 (by decide) (by decide)]; exact m4
  · rw [v1 603 (by decide) (by decide)]; exact m5
  · rw [hV 1 3 (by decide)]
    show up2 (up2 (beV V (1 + at') 0) 607 1 _) 608 1 _ 1 3 = _
    rw [up2_nf (by decide), up2_nf (by decide), beV_ne (by omega)]; exact m6
  · rw [hW 4 (by decide) (by decide), beW_ne (by omega) (by omega), eA 705 (by decide) (by decide)]; exact m7
  · rw [hW 5 (by decide) (by decide), beW_ne (by omega) (by omega), eA 738 (by decide) (by decide)]; exact m8 j hj
  · rw [hV 302 _ (by omega), baV_ne (by omega) (by omega), eA 701 (by decide) (by decide)]; exact m8b r hr
  · rw [hV 301 _ (by omega), baV_ne (by omega) (by omega), hW _ (by omega) (by omega), beW_ne (by omega) (by omega), eA 702 (by decide) (by decide), eA 703 (by decide) (by decide)]
    exact m9 r hr s hs
  · rw [eA 731 (by decide) (by decide)]
    refine ⟨(h7 k hk).1, fun hi => ?_⟩
    obtain ⟨n', cm', x1, x2, x3, x4, x5, x6, x7⟩ := (h7 k hk).2 hi
    unfold IMk
    rw [eA 732 (by decide) (by decide), eA 733 (by decide) (by decide), eA 734 (by decide) (by decide), eA 735 (by decide) (by decide), eA 736 (by decide) (by decide)]
    refine ⟨n', cm', x1, x2, x3, x4, x5.congr ?_ ?_ ?_ ?_ (fun _ _ => rfl), x6, x7⟩
    · rw [hW _ (by omega) (by omega), beW_ne (by omega) (by omega)]
    · rw [hW _ (by omega) (by omega), beW_ne (by omega) (by omega)]
    · rw [hV _ _ (by omega), baV_ne (by omega) (by omega)]
    · rw [hV _ _ (by omega), baV_ne (by omega) (by omega)]
  · rw [e15]; exact hw
  · rw [e29]
    have ha : am1 am ≤ 24 ∧ am1 am ≤ am + 1 := by unfold am1; split <;> omega
    by_cases c : k = 0
    · subst c
      have e0 : ((at' + 1) % 24 + 23 - 0) % 24 = at' := by omega
      rw [e0]
      exact b1.congr (fun j hj => new j hj)
    · have e0 : ((at' + 1) % 24 + 23 - k) % 24 = (at' + 23 - (k - 1)) % 24 := by omega
      rw [e0]
      exact (b2 (k - 1) (by omega)).congr (fun j hj => same _ (Nat.mod_lt _ (by decide)) (by omega) j hj)
  · rw [eA 714 (by decide) (by decide), eA 713 (by decide) (by decide)]; exact b3
theorem rain_ok {c r : Nat} (hc : c ≤ 30) (hr : 1 ≤ r ∧ r ≤ 9) : maxI 0 (nI c - nI r) = (if nI r < nI c then nI c - nI r else 0) ∧ ∃ z, z ≤ c ∧ (if nI r < nI c then nI c - nI r else 0) = nI z := by
  unfold maxI
  by_cases q : r < c
  · rw [if_pos ((nI_ltI (by omega) (by omega)).mpr q), pk_sub (by omega), if_pos (show (0 : Int32) < nI (c - r) from (nI_ltI (a := 0) (b := c - r) (by omega) (by omega)).mpr (by omega))]
    exact ⟨rfl, c - r, by omega, rfl⟩
  · rw [if_neg (fun z => q ((nI_ltI (by omega) (by omega)).mp z)), if_neg]
    · exact ⟨rfl, 0, by omega, rfl⟩
    · rw [Int32.lt_iff_toInt_lt, pk_sub_toInt (by omega) (by omega)]
      have : (0 : Int32).toInt = 0 := rfl
      omega
theorem rainF_cg {a b on on' : Nat → Int32} {ra : Int32} {n k : Nat} (hn : n ≤ 8) (ha : ∀ j, j < 8 → a j = b j) (ho : ∀ j, j < 8 → on j = on' j) : ∀ j, j < 8 → rainF a on ra n k j = rainF b on' ra n k j := by
  intro j hj
  have e1 : stP on (posB a) n = stP on' (posB b) n := stP_congr (fun k hk => ⟨ho k (by omega), by unfold posB; rw [ha k (by omega)]⟩)
  have e2 : mkS (fun q => decide (hasB (on q) (nI j))) n = mkS (fun q => decide (hasB (on' q) (nI j))) n := mkS_congr (fun k hk => by rw [ho k (by omega)])
  have ew : wetB a on n j ↔ wetB b on' n j := by
    unfold wetB
    rw [e1, e2]
  unfold rainF
  by_cases c : j < k ∧ wetB a on n j
  · rw [if_pos (c := j < k ∧ wetB a on n j) c, if_pos (c := j < k ∧ wetB b on' n j) ⟨c.1, ew.mp c.2⟩, ha j hj]
  · rw [if_neg (c := j < k ∧ wetB a on n j) c, if_neg (c := j < k ∧ wetB b on' n j) (fun z => c ⟨z.1, ew.mpr z.2⟩), ha j hj]
/-- rain keeps a State's bounds -/
theorem WS.rain {L : Nat} {a on : Nat → Int32} {r : Nat} (h : WS n cm L a) (hn : n ≤ 8) (hr : 1 ≤ r ∧ r ≤ 9) : WS n cm L (rainF a on (nI r) n n) := by
  obtain ⟨h1, h2, h3⟩ := h
  refine ⟨fun j hj => ?_, fun c hc => ?_, ?_⟩
  · obtain ⟨c, c1, c2, c3⟩ := h1 j hj
    unfold rainF
    by_cases q : j < n ∧ wetB a on n j
    · rw [if_pos q, c2]
      obtain ⟨-, z, z1, z2⟩ := rain_ok c1 hr
      exact ⟨z, by omega, z2, fun w => by omega⟩
    · rw [if_neg q]; exact ⟨c, c1, c2, c3⟩
  · unfold rainF
    rw [if_neg (by omega)]; exact h2 c hc
  · unfold rainF
    rw [if_neg (by omega)]; exact h3
end Q8
