/-! ===== pairs: foretold, by sets and sums ===== -/
section Q6
variable {H : hp} {K : Nat → Nat} {V W : Nat → Nat → Int32} {y x n cm at' am by' tm t : Nat} {I : Nat → Int32} {A : Nat → Nat → Int32} {rs : Nat → Option Nat}
theorem RD.bw (hR : RD H K V W y x I A n cm at' am by' tm rs t) : WS n cm (30 * t) (A 715) := hR.2.2.2.2.2.2.2.1
theorem RD.wp (hR : RD H K V W y x I A n cm at' am by' tm rs t) : WP n cm (I 710) (I 711) (A 714) (A 713) := hR.2.2.2.2.2.2.2.2.2
theorem RD.tkn (hR : RD H K V W y x I A n cm at' am by' tm rs t) {c : Nat} (hc : c < cm) : ∃ k hd dd, (1 ≤ k ∧ k ≤ 5) ∧ (1 ≤ hd ∧ hd ≤ 9) ∧ dd ≤ 999 ∧ 0 < n ∧ ∀ l, l ≤ 100 → tkN A c (nI l) = nI (tkZ k hd l dd) := by
  obtain ⟨n1, ⟨k, k1, k5, ek⟩, ⟨hd, d1, d9, ed⟩⟩ := hR.wp.2.2 c hc
  obtain ⟨dd, dd9, edd⟩ := hR.bw.2.2
  refine ⟨k, hd, dd, ⟨k1, k5⟩, ⟨d1, d9⟩, dd9, n1, fun l hl => ?_⟩
  unfold tkN
  rw [ek, ed, edd]
  exact tkB_n k1 k5 d9 hl (by omega)
theorem RD.s8 (hR : RD H K V W y x I A n cm at' am by' tm rs t) : smI (W 100) 8 = smI (A 715) n := by
  have n8 := hR.n8
  rw [smI_congr (g := A 715) (fun k hk => hR.w1 hk)]
  have := smI_z (g := A 715) (n := n) (8 - n) (fun j h1 h2 => by
    obtain ⟨c, -, ec, h0⟩ := hR.bw.1 j (by omega)
    rw [ec, h0 h1]; rfl)
  rw [show n + (8 - n) = 8 by omega] at this
  exact this
theorem RD.s4 (hR : RD H K V W y x I A n cm at' am by' tm rs t) : smI (W 200) 4 = smI (fun k => A 715 (8 + k)) cm := by
  have c4 := hR.c4
  rw [smI_congr (g := fun k => A 715 (8 + k)) (fun k hk => hR.w2 hk)]
  have := smI_z (g := fun k => A 715 (8 + k)) (n := cm) (4 - cm) (fun j h1 h2 => by
    obtain ⟨l, -, el, h0⟩ := hR.bw.2.1 j (by omega)
    rw [el, h0 h1]; rfl)
  rw [show cm + (4 - cm) = 4 by omega] at this
  exact this
theorem b_stand {wh : Int32} (hmv : MVal H (x + 1) I A) (hR : RD H K V W (y + 1) (x + 1) I A n cm at' am by' tm rs t) : Both 0 0 mX6_stand mX7_stand [.inl wh] (y + 1) (x + 1) (CU H K V W) (INV (y + 1) (x + 1) (t + 1)) := by
  intro kk1 hk1
  have n8 := hR.n8
  refine c_stand hR.cs hR.pn (fun c => ro hmv hR hk1 (fun kk2 h2 => m_stand hR.ms hR.mi (fun _ => h2 A (EA.rf A)) (fun z => absurd c (by omega)))) (fun c => ?_)
  have ef : mkS (posB (W 100)) 8 &&& (stC H (hfR H 604 (y + 1)) n W 0 ^^^ (-1)) = fallF A n := by
    refine set_ext (and256 (mk256 (by omega)) _) (mk256 n8) (fun k hk => ?_)
    unfold fallF
    rw [hasB_and _ _ hk, mkS_bit hk (by omega), hasB_not _ hk, mkS_bit hk n8, hR.st, Bool.and_eq_true, Bool.not_eq_true', decide_eq_false_iff_not]
    have e1 : posB (W 100) k = posB (A 715) k := by unfold posB; rw [hR.w1 hk]
    rw [e1]
    refine ⟨fun z => ⟨?_, z.1.2, z.2⟩, fun z => ⟨⟨hk, z.2.1⟩, z.2.2⟩⟩
    apply Nat.lt_of_not_le
    intro zn
    obtain ⟨q, -, eq, h0⟩ := hR.bw.1 k hk
    have z2 := z.1.2
    unfold posB at z2
    rw [eq, h0 zn] at z2
    exact absurd z2 (by decide)
  rw [ef, hR.st, hR.s8, hR.s4, hR.du]
  exact ro hmv hR hk1 (fun kk2 h2 => m_stand hR.ms hR.mi (fun z => absurd z (by omega)) (fun _ => h2 A (EA.rf A)))
theorem b_count {wh : Int32} (hmv : MVal H (x + 1) I A) (hR : RD H K V W (y + 1) (x + 1) I A n cm at' am by' tm rs t) : Both 0 0 mX6_count mX7_count [.inl wh] (y + 1) (x + 1) (CU H K V W) (INV (y + 1) (x + 1) (t + 1)) := by
  intro kk1 hk1
  refine c_count hR.cs ?_
  obtain ⟨⟨i1, -⟩, ⟨i2, -⟩, -⟩ := hR.mi
  have m := hR.2.2.2.2.2.1.1
  have er : smI (rtC V) 8 = smI (rwC A) 8 := by
    refine smI_congr (fun r hr => ?_)
    show (if V 302 (310 + r) < 0 then (0 : Int32) else 1) = (if A 701 r < 0 then 0 else 1)
    rw [hR.2.2.2.2.2.1.2.2.2.1 r hr]
  rw [er, hR.pn.1.1, ← i1, hR.2.2.2.1.1.1, hR.pn.2.1, ← i2, hR.dy, hR.s4, m.2.1, m.2.2.1]
  exact ro hmv hR hk1 (fun kk2 h2 => m_count hR.ms hR.mi (h2 A (EA.rf A)))
theorem b_left {cl : Int32} (hmv : MVal H (x + 1) I A) (hR : RD H K V W (y + 1) (x + 1) I A n cm at' am by' tm rs t) : Both 0 0 mX6_left mX7_left [.inl cl] (y + 1) (x + 1) (CU H K V W) (INV (y + 1) (x + 1) (t + 1)) := by
  intro kk1 hk1
  have c4 := hR.c4
  have n8 := hR.n8
  have pos : ∀ c, c < cm → ∃ r, 1 ≤ r ∧ r ≤ 2000 ∧ tkN A c 1 = nI r := by
    intro c hc
    obtain ⟨k, hd, dd, hk, hh, -, -, e⟩ := hR.tkn hc
    exact ⟨_, tkZ_pos hk.1 hk.2 hh.1 (Nat.le_refl 1), tkZ_le hk.1 hk.2 hh.2 (by omega), e 1 (by omega)⟩
  have m1 : ∀ c, c < cm → ¬ tkN A c 1 = 0 := by
    intro c hc e
    obtain ⟨r, r1, r2, er⟩ := pos c hc
    rw [er] at e
    have := nIj (a := r) (b := 0) (by omega) (by omega) e
    omega
  refine c_left hR.cs hR.pn (fun c => ro hmv hR hk1 (fun kk2 h2 => m_left hR.ms hR.mi (fun _ => h2 A (EA.rf A)) m1 (fun c' hc e => absurd (by rw [e]; exact inB_nI hc (by omega)) c))) (fun c hc => ?_) (fun c hc e => ro hmv hR hk1 (fun kk2 h2 => m_left hR.ms hR.mi (fun z => absurd (by rw [e]; exact inB_nI hc (by omega)) z) m1 (fun c' hc' e' => ?_)))
  · rw [hR.tk hc]
    obtain ⟨r, r1, r2, er⟩ := pos c hc
    rw [er]
    exact (nI_leI (a := 1) (by omega) (by omega)).mpr r1
  · have ec : c = c' := nIj (by omega) (by omega) (e.symm.trans e')
    subst ec
    refine kki (h2 A (EA.rf A)) ?_ rfl
    exact smI_congr (fun k hk => by rw [hR.w1 (by omega), hR.tk hc])
theorem laF_skip {tk : Nat → Int32} {ch : Int32} {j : Nat} : ∀ k, (∀ i, j < i → i ≤ j + k → ¬ tk i ≤ ch) → laF tk ch (j + k) = laF tk ch j
  | 0, _ => rfl
  | k + 1, h => by
    show (if tk (j + k + 1) ≤ ch then j + k + 1 else laF tk ch (j + k)) = _
    rw [if_neg (h (j + k + 1) (by omega) (by omega))]
    exact laF_skip k (fun i h1 h2 => h i h1 (by omega))
theorem laF_at {tk : Nat → Int32} {ch : Int32} {j : Nat} (h : 1 ≤ j → tk j ≤ ch) : laF tk ch j = j := by
  cases j with
  | zero => rfl
  | succ j => exact if_pos (h (by omega))
theorem laF_lgL {tk : Nat → Int32} {ch : Int32} (mono : ∀ i, i < 30 → tk i ≤ tk (i + 1)) : ∀ f j, j + f = 30 → (1 ≤ j → tk j ≤ ch) → lgL tk ch f j = laF tk ch 30
  | 0, j, e, h => by
    have : j = 30 := by omega
    subst this
    exact (laF_at h).symm
  | f + 1, j, e, h => by
    show (if ch < tk (j + 1) then j else lgL tk ch f (j + 1)) = _
    by_cases c : ch < tk (j + 1)
    · rw [if_pos c]
      have up : ∀ k, j + 1 + k ≤ 30 → tk (j + 1) ≤ tk (j + 1 + k) := by
        intro k
        induction k with
        | zero => intro _; exact Int32.le_refl _
        | succ k ih => intro hk; exact Int32.le_trans (ih (by omega)) (mono (j + 1 + k) (by omega))
      have := laF_skip (tk := tk) (ch := ch) (j := j) (f + 1) (fun i h1 h2 => by
        have := up (i - (j + 1)) (by omega)
        rw [show j + 1 + (i - (j + 1)) = i by omega] at this
        intro z
        exact Int32.not_lt.mpr (Int32.le_trans this z) c)
      rw [show j + (f + 1) = 30 by omega] at this
      rw [this, laF_at h]
    · rw [if_neg c]
      exact laF_lgL mono f (j + 1) (by omega) (fun _ => Int32.not_lt.mp c)
theorem loF_lgS {l : Nat → Nat} (hl : ∀ k, l k ≤ 30) : ∀ n, lgS l (n + 1) = (nI (loF l (n + 1)).2, nI (loF l (n + 1)).1)
  | 0 => by
    show (if (-1 : Int32) < nI (l 0) then (nI 0, nI (l 0)) else (0, -1)) = (nI (if 0 < l 0 then (l 0, 0) else (0, 0)).2, nI (if 0 < l 0 then (l 0, 0) else (0, 0)).1)
    have h0 := hl 0
    have : (-1 : Int32) < nI (l 0) := by
      rw [Int32.lt_iff_toInt_lt, nI_toInt (by omega)]
      have : (-1 : Int32).toInt = -1 := rfl
      omega
    rw [if_pos this]
    by_cases c : 0 < l 0
    · rw [if_pos c]
    · rw [if_neg c]
      have : l 0 = 0 := by omega
      rw [this]
  | n + 1 => by
    have hn := hl (n + 1)
    have hb := loF_le hl (n + 1)
    have ih := loF_lgS hl n
    show (if (lgS l (n + 1)).2 < nI (l (n + 1)) then (nI (n + 1), nI (l (n + 1))) else lgS l (n + 1)) = (nI (if (loF l (n + 1)).1 < l (n + 1) then (l (n + 1), n + 1) else loF l (n + 1)).2, nI (if (loF l (n + 1)).1 < l (n + 1) then (l (n + 1), n + 1) else loF l (n + 1)).1)
    rw [ih]
    dsimp only
    by_cases c : (loF l (n + 1)).1 < l (n + 1)
    · rw [if_pos c, if_pos ((nI_ltI (by omega) (by omega)).mpr c)]
    · rw [if_neg c, if_neg (fun z => c ((nI_ltI (by omega) (by omega)).mp z))]
theorem b_longest {cl wh : Int32} (hmv : MVal H (x + 1) I A) (hR : RD H K V W (y + 1) (x + 1) I A n cm at' am by' tm rs t) : Both 0 0 mX6_longest mX7_longest [.inl cl, .inl wh] (y + 1) (x + 1) (CU H K V W) (INV (y + 1) (x + 1) (t + 1)) := by
  intro kk1 hk1
  have c4 := hR.c4
  have n8 := hR.n8
  refine c_longest hR.cs hR.pn (fun c => ro hmv hR hk1 (fun kk2 h2 => m_longest hR.ms hR.mi (fun _ => h2 A (EA.rf A)) (fun c' hc e q => absurd ⟨by rw [e]; exact inB_nI hc (by omega), inR2.mp q⟩ c))) (fun c L hc e q eL => ro hmv hR hk1 (fun kk2 h2 => m_longest hR.ms hR.mi (fun z => absurd ⟨by rw [e]; exact inB_nI hc (by omega), inR2.mpr q⟩ z) (fun c' hc' e' _ => ?_)))
  have ec : c = c' := nIj (by omega) (by omega) (e.symm.trans e')
  subst ec
  refine kki (h2 A (EA.rf A)) ?_ rfl
  obtain ⟨k, hd, dd, hk, hh, -, n1, et⟩ := hR.tkn hc
  have eLB : ∀ b, b < n → L b = lgB A c b := by
    intro b hb
    rw [eL]
    dsimp only
    have etk : (fun l => tkC H (hfR H 604 (y + 1)) V c (nI l)) = (fun l => tkN A c (nI l)) := funext (fun l => hR.tk hc (nI l))
    rw [etk, hR.w1 (by omega)]
    refine (laF_lgL (fun i hi => ?_) 30 0 rfl (fun z => absurd z (by omega))).symm
    rw [et i (by omega), et (i + 1) (by omega)]
    have := tkZ_le (l := i) (dd := dd) hk.1 hk.2 hh.2 (by omega)
    have := tkZ_le (l := i + 1) (dd := dd) hk.1 hk.2 hh.2 (by omega)
    exact (nI_leI (by omega) (by omega)).mpr (tkZ_mono hk.1 hk.2)
  have hL : ∀ b, L b ≤ 30 := by
    intro b
    rw [eL]
    exact laF_le _ _ 30
  have elg : ∀ m, m ≤ n → lgS (lgB A c) m = lgS L m := by
    intro m
    induction m with
    | zero => intro _; rfl
    | succ m ih =>
      intro hm
      show (if (lgS (lgB A c) m).2 < nI (lgB A c m) then (nI m, nI (lgB A c m)) else lgS (lgB A c) m) = (if (lgS L m).2 < nI (L m) then (nI m, nI (L m)) else lgS L m)
      rw [ih (by omega), eLB m (by omega)]
  rw [elg n (Nat.le_refl n)]
  obtain ⟨n', rfl⟩ : ∃ n', n = n' + 1 := ⟨n - 1, by omega⟩
  rw [loF_lgS hL n']
theorem b_must (hmv : MVal H (x + 1) I A) (hR : RD H K V W (y + 1) (x + 1) I A n cm at' am by' tm rs t) : Both 0 0 mX6_must mX7_must [] (y + 1) (x + 1) (CU H K V W) (INV (y + 1) (x + 1) (t + 1)) := by
  intro kk1 hk1
  have n8 := hR.n8
  refine c_must hR.cs hR.pn (fun c => ro hmv hR hk1 (fun kk2 h2 => m_must hR.ms hR.mi (fun _ => h2 A (EA.rf A)) (fun A' z _ => absurd c (by omega)))) (fun c => ?_)
  have e : mkS (muC H (hfR H 604 (y + 1)) n W) n &&& stC H (hfR H 604 (y + 1)) n W 0 = mkS (muF A n) n := by
    refine set_ext (and256 (mk256 n8) _) (mk256 n8) (fun k hk => ?_)
    have em : muC H (hfR H 604 (y + 1)) n W k = decide (bitsI (stN A n) < (2 : Int32) * bitsI (stN A n &&& (stW A n (1 <<< (nI k &&& 31)) ^^^ (-1)))) := by
      unfold muC faX
      rw [hR.st, hR.sx]
    rw [hasB_and _ _ hk, mkS_bit hk n8, mkS_bit hk n8, em, hR.st, Bool.and_eq_true, decide_eq_true_iff, decide_eq_true_iff]
    exact ⟨fun z => ⟨z.1.1, z.2, z.1.2⟩, fun z => ⟨⟨z.1, z.2.2⟩, z.2.1⟩⟩
  rw [e]
  exact ro hmv hR hk1 (fun kk2 h2 => m_must hR.ms hR.mi (fun z => absurd z (by omega)) (fun A' _ e => h2 A' e))
theorem b_leastFallen {many bs wh : Int32} (hmv : MVal H (x + 1) I A) (hR : RD H K V W (y + 1) (x + 1) I A n cm at' am by' tm rs t) : Both 0 0 mX6_leastFallen mX7_leastFallen [.inl many, .inl bs, .inl wh] (y + 1) (x + 1) (CU H K V W) (INV (y + 1) (x + 1) (t + 1)) := by
  intro kk1 hk1
  have n8 := hR.n8
  have h256 := p256 n8
  refine c_leastFallen hR.cs hR.pn (fun c => ro hmv hR hk1 (fun kk2 h2 => m_leastFallen hR.ms hR.mi (fun _ => h2 A (EA.rf A)) (fun z _ => absurd c (by omega)) (fun A' z _ _ _ _ => absurd c (by omega)))) (fun c q => ro hmv hR hk1 (fun kk2 h2 => m_leastFallen hR.ms hR.mi (fun z => absurd z (by omega)) (fun _ _ => h2 A (EA.rf A)) (fun A' _ a1 a2 a3 _ => absurd ⟨a1, a2, inR2.mp a3⟩ q))) (fun m R c a1 a2 a3 hm em eR => ro hmv hR hk1 (fun kk2 h2 => m_leastFallen hR.ms hR.mi (fun z => absurd z (by omega)) (fun _ z => absurd ⟨a1, a2, inR2.mpr a3⟩ z) (fun A' _ _ _ a3' eA => ?_)))
  refine kki (h2 A' eA) ?_ rfl
  rw [hR.st] at em
  have key : lfX A n many bs (2 ^ n) = R := by
    have h1 : lfX A n many bs (2 ^ n) = lfX A n many bs (m + 1) := by
      have := lfS_end (ok := lfOk A n many bs) (cost := lfC A n) (m := m + 1) (2 ^ n - (m + 1)) (fun j j1 j2 => by
        refine decide_eq_false (fun z => ?_)
        rw [em] at z
        have := sub_le m (by omega) j (by omega) z.1
        omega)
      rw [show m + 1 + (2 ^ n - (m + 1)) = 2 ^ n by omega] at this
      exact this
    rw [h1, eR]
    refine lfS_congr (m + 1) (fun j hj => ⟨?_, ?_⟩)
    · have sub : ∀ k, k < 8 → hasB (stW A n (nI j)) (nI k) → hasB (stN A n) (nI k) := stP_sub n8 (fun k hk z => (Bool.and_eq_true_iff.mp z).1)
      have eup : stN A n &&& (flF A n j ^^^ (-1)) = stW A n (nI j) := by
        refine set_ext (and256 (in_st n8 _ _) _) (in_st n8 _ _) (fun k hk => ?_)
        rw [hasB_and _ _ hk, hasB_not _ hk, hasB_and _ _ hk, hasB_not _ hk]
        refine ⟨fun z => ?_, fun z => ⟨sub k hk z, fun w => w.2 z⟩⟩
        apply Classical.byContradiction
        intro w
        exact z.2 ⟨z.1, w⟩
      have eus : usC H (hfR H 604 (y + 1)) n W j = smI (cbF A (stW A n (nI j))) n := by
        unfold usC faX
        rw [hR.s8, hR.st, hR.sx]
        show smI (A 715) n - bitsI (stN A n &&& (flF A n j ^^^ (-1))) = _
        rw [eup]
        obtain ⟨u, u1, u2⟩ := stP_in (on := A 712) (p := fun k => posB (A 715) k && !decide (hasB (nI j) (nI k))) n8
        have u2 : stW A n (nI j) = nI u := u2
        rw [u2]
        unfold cbF
        rw [smI_but]
        unfold bitsI
        rw [nI_clamp (by omega), cbN_n u1 n8]
      unfold okC
      rw [eus]
      unfold faX
      rw [hR.st, hR.sx]
      rw [Bool.eq_iff_iff, decide_eq_true_iff, Bool.and_eq_true, Bool.and_eq_true, decide_eq_true_iff, decide_eq_true_iff, Bool.not_eq_true', decide_eq_false_iff_not]
    · unfold lfC faX
      rw [hR.st, hR.sx]
  rw [key]
  rcases w01.mp a3' with w | w
  · subst w
    rw [if_pos rfl]
    by_cases cR : R.1 = eNONE
    · rw [if_pos cR, if_pos (Or.inr cR), cR]
    · rw [if_neg cR, if_neg (fun z => z.elim (fun z => absurd z (by decide)) cR)]
  · subst w
    by_cases cR : R.1 = eNONE
    · rw [if_pos cR, if_pos (Or.inl rfl), cR]
    · rw [if_neg cR, if_pos (Or.inl rfl)]
      exact if_neg (by decide)
end Q6
