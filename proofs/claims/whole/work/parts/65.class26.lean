/-! ===== the class: centuries by draws ===== -/
abbrev dwC (ki ha : Nat → Int32) (cm Y : Nat) (dy : Int32) : Int32 := tkB (ki (Y % cm)) (ha (Y % cm)) (nI (Y % 5 + 1)) dy
def dwS (ki ha : Nat → Int32) (n cm Y : Nat) (c : Nat → Int32) (du dy : Int32) : (Nat → Int32) × Int32 := if cm = 0 then (c, du) else if c (Y % n) < dwC ki ha cm Y dy then (c, du) else (upd c (Y % n) (c (Y % n) - dwC ki ha cm Y dy), du + dwC ki ha cm Y dy)
abbrev deR (on : Nat → Int32) (rain : Int32) (n Y : Nat) (c : Nat → Int32) : Nat → Int32 := if Y % 4 = 0 then rainF c on rain n n else c
def deS (on ki ha : Nat → Int32) (rain : Int32) (n cm seed : Nat) (c0 : Nat → Int32) (dy0 : Int32) : Nat → Nat × (Nat → Int32) × Int32 × Int32
  | 0 => (seed, c0, 0, dy0)
  | k + 1 => (drX (deS on ki ha rain n cm seed c0 dy0 k).1, deR on rain n (drX (deS on ki ha rain n cm seed c0 dy0 k).1) (dwS ki ha n cm (drX (deS on ki ha rain n cm seed c0 dy0 k).1) (deS on ki ha rain n cm seed c0 dy0 k).2.1 (deS on ki ha rain n cm seed c0 dy0 k).2.2.1 (deS on ki ha rain n cm seed c0 dy0 k).2.2.2).1, (dwS ki ha n cm (drX (deS on ki ha rain n cm seed c0 dy0 k).1) (deS on ki ha rain n cm seed c0 dy0 k).2.1 (deS on ki ha rain n cm seed c0 dy0 k).2.2.1 (deS on ki ha rain n cm seed c0 dy0 k).2.2.2).2, (deS on ki ha rain n cm seed c0 dy0 k).2.2.2 + 1)
theorem deS_lt {on ki ha : Nat → Int32} {rain : Int32} {n cm seed : Nat} {c0 : Nat → Int32} {dy0 : Int32} (hs : seed < 2147483647) : ∀ k, (deS on ki ha rain n cm seed c0 dy0 k).1 < 2147483647
  | 0 => hs
  | k + 1 => Nat.mod_lt _ (by omega)
abbrev rcP (rain c : Int32) : Prop := maxI 0 (c - rain) = if rain < c then c - rain else 0
section C32
variable {d y n cm : Nat} {H : hp} {K : Nat → Nat} {V W : Nat → Nat → Int32} {kk : Rt}
set_option maxRecDepth 20000 in
theorem c_drawWriting {Y : Nat} (hY : Y < 2147483647) (n1 : 0 < n) (hS : CS H K (y + 1)) (hn : Pn H (hfR H 604 (y + 1)) n cm) (D : (Nat → Int32) × Int32) (hD : D = dwS (pA H (hfR H 604 (y + 1)) 108) (pA H (hfR H 604 (y + 1)) 109) n cm Y (W 127) (V 502 37) (V 503 37)) (hk : kk none (CU H K (up2 V 502 37 D.2) (va_up W 127 D.1))) : CL (d + 3) mX6_drawWriting 0 0 [.inr (.inr (7, y + 1)), .inr (.inl (lN Y))] (CU H K V W) kk := by
  have n8 := hn.1.2
  have c4 := hn.2.2
  obtain ⟨⟨fa1, fa2, fa3⟩, ⟨fa4, fa5, fa6⟩, -⟩ := hS.fore
  have hp0 := hS.pl.1.1
  have same : D = (W 127, V 502 37) → kk none (CU H K V W) := by
    intro e
    rw [e] at hk
    dsimp only at hk
    rw [up2_id V 502 37 _ rfl, up_id] at hk
    exact hk
  have ec : hfI (CU H K V W) 104 (hfR (CU H K V W) 604 (y + 1)) = nI cm := (CU_fIo hS.pl.1.2).trans hn.2.1
  have en : hfI (CU H K V W) 102 (hfR (CU H K V W) 604 (y + 1)) = nI n := (CU_fIo hS.pl.1.2).trans hn.1.1
  refine mw T_X6_drawWriting (fun Wm go => go (cut2 22 48) 80 0 _ _ _ _ _ ?_)
  refine nz hp0 ?_
  refine And.intro (fun w => ?_) (fun w => ?_)
  · have w : hfI (CU H K V W) 104 (hfR (CU H K V W) 604 (y + 1)) < 1 := w
    rw [ec] at w
    have w0 : cm = 0 := by
      have : ¬ 1 ≤ cm := fun q => Int32.not_lt.mpr ((nI_leI (a := 1) (by omega) (by omega)).mpr q) w
      omega
    refine go cut0 10 22 _ _ _ _ _ (same ?_)
    rw [hD]
    unfold dwS
    rw [if_pos w0]
  · have w : ¬ hfI (CU H K V W) 104 (hfR (CU H K V W) 604 (y + 1)) < 1 := w
    rw [ec] at w
    have w0 : 0 < cm := (nI_leI (a := 1) (by omega) (by omega)).mp (Int32.not_lt.mp w)
    refine nz hp0 (And.intro (fun _ => ?_) (fun w2 => ?_))
    rotate_left
    · have w2 : ¬ 1 ≤ hfI (CU H K V W) 102 (hfR (CU H K V W) 604 (y + 1)) := w2
      rw [en] at w2
      exact absurd ((nI_leI (a := 1) (by omega) (by omega)).mpr n1) w2
    have ec2 : (hfI (CU H K V W) 104 (hfR (CU H K V W) 604 (y + 1))).toInt64 = lN cm := by rw [ec]; exact nI_l (by omega)
    have en2 : (hfI (CU H K V W) 102 (hfR (CU H K V W) 604 (y + 1))).toInt64 = lN n := by rw [en]; exact nI_l (by omega)
    refine nz hp0 (And.intro (lne ec2 w0 (by omega)) (nz hp0 (And.intro (lne en2 n1 (by omega)) ?_)))
    have zz1 : (lN Y - lN Y / (hfI (CU H K V W) 104 (hfR (CU H K V W) 604 (y + 1))).toInt64 * (hfI (CU H K V W) 104 (hfR (CU H K V W) 604 (y + 1))).toInt64).toInt32 = nI (Y % cm) := by rw [lmod rfl ec2 (by omega) w0 (by omega), lN_i]
    have zz2 : (lN Y - lN Y / (hfI (CU H K V W) 102 (hfR (CU H K V W) 604 (y + 1))).toInt64 * (hfI (CU H K V W) 102 (hfR (CU H K V W) 604 (y + 1))).toInt64).toInt32 = nI (Y % n) := by rw [lmod rfl en2 (by omega) n1 (by omega), lN_i]
    have zz3 : (lN Y - lN Y / 5 * 5).toInt32 + 1 = nI (Y % 5 + 1) := by rw [lmod rfl (show (5 : Int64) = lN 5 from rfl) (by omega) (by omega) (by omega), lN_i, nI_1]
    have hcm : Y % cm < cm := Nat.mod_lt _ w0
    have hnm : Y % n < n := Nat.mod_lt _ n1
    refine wmc (Wm := Wm) (L' := [some (.inr (.inr (7, y + 1))), some (.inr (.inl (lN Y))), none, some (.inl (nI (Y % cm))), some (.inl (nI (Y % n))), none]) ?_ ?_ rfl
    rotate_left
    · show [some (Sum.inr (Sum.inr (7, y + 1))), some (Sum.inr (Sum.inl (lN Y))), none, some (Sum.inl ((lN Y - lN Y / (hfI (CU H K V W) 104 (hfR (CU H K V W) 604 (y + 1))).toInt64 * (hfI (CU H K V W) 104 (hfR (CU H K V W) 604 (y + 1))).toInt64).toInt32)), some (Sum.inl ((lN Y - lN Y / (hfI (CU H K V W) 102 (hfR (CU H K V W) 604 (y + 1))).toInt64 * (hfI (CU H K V W) 102 (hfR (CU H K V W) 604 (y + 1))).toInt64).toInt32)), none] = _
      rw [zz1, zz2]
    refine go (cut1 73) 80 48 _ _ _ _ _ ?_
    refine And.intro (by decide) (nz fa1 (nz hp0 ?_))
    refine c_chalkFor (CU_e _ _ _ _ _ _) hS.pl (by omega) ?_
    have ed : hfI (CU H K V W) 503 (hfR (CU H K V W) 611 (y + 1)) = V 503 37 := CU_fI fa2 (by decide)
    refine wmc (Wm := Wm) (L' := [some (.inr (.inr (7, y + 1))), some (.inr (.inl (lN Y))), none, some (.inl (nI (Y % cm))), some (.inl (nI (Y % n))), some (.inl (dwC (pA H (hfR H 604 (y + 1)) 108) (pA H (hfR H 604 (y + 1)) 109) cm Y (V 503 37)))]) ?_ ?_ rfl
    rotate_left
    · show [some (Sum.inr (Sum.inr (7, y + 1))), some (Sum.inr (Sum.inl (lN Y))), none, some (Sum.inl (nI (Y % cm))), some (Sum.inl (nI (Y % n))), some (Sum.inl (tkB (pA H (hfR H 604 (y + 1)) 108 (Y % cm)) (pA H (hfR H 604 (y + 1)) 109 (Y % cm)) ((lN Y - lN Y / 5 * 5).toInt32 + 1) (hfI (CU H K V W) 503 (hfR (CU H K V W) 611 (y + 1)))))] = _
      rw [zz3, ed]
    unfold dwS at hD
    rw [if_neg (by omega)] at hD
    generalize dwC (pA H (hfR H 604 (y + 1)) 108) (pA H (hfR H 604 (y + 1)) 109) cm Y (V 503 37) = tk at *
    refine go cut0 80 73 _ _ _ _ _ ?_
    refine nz fa1 ?_
    refine cld fa4 fa5 (by decide) fa6 (by omega) (Y % n) rfl (by omega) ?_
    refine And.intro (fun q => ?_) (fun q => ?_)
    · have q : W 127 (Y % n) < tk := q
      rw [if_pos q] at hD
      exact same hD
    · have q : ¬ W 127 (Y % n) < tk := q
      rw [if_neg q] at hD
      rw [hD] at hk
      refine nz fa1 ?_
      exact c_useUp hS.k (CU_e _ _ _ _ _ _) hS.fore (by omega) hk
set_option maxRecDepth 20000 in
theorem c_drawn {nd sd wh : Int32} (hS : CS H K (y + 1)) (hn : Pn H (hfR H 604 (y + 1)) n cm) (hra : ∀ s c0 k, k ≤ 60 → (∀ j, j < 8 → c0 j = W 100 j) → ∀ j, j < n → rcP (pI H (hfR H 604 (y + 1)) 100) ((dwS (pA H (hfR H 604 (y + 1)) 108) (pA H (hfR H 604 (y + 1)) 109) n cm (drX (deS (pA H (hfR H 604 (y + 1)) 106) (pA H (hfR H 604 (y + 1)) 108) (pA H (hfR H 604 (y + 1)) 109) (pI H (hfR H 604 (y + 1)) 100) n cm s c0 (V 503 10) k).1) (deS (pA H (hfR H 604 (y + 1)) 106) (pA H (hfR H 604 (y + 1)) 108) (pA H (hfR H 604 (y + 1)) 109) (pI H (hfR H 604 (y + 1)) 100) n cm s c0 (V 503 10) k).2.1 (deS (pA H (hfR H 604 (y + 1)) 106) (pA H (hfR H 604 (y + 1)) 108) (pA H (hfR H 604 (y + 1)) 109) (pI H (hfR H 604 (y + 1)) 100) n cm s c0 (V 503 10) k).2.2.1 (deS (pA H (hfR H 604 (y + 1)) 106) (pA H (hfR H 604 (y + 1)) 108) (pA H (hfR H 604 (y + 1)) 109) (pI H (hfR H 604 (y + 1)) 100) n cm s c0 (V 503 10) k).2.2.2).1 j)) (hs : n = 0 → kk (some (.inl eSTATE)) (CU H K V W)) (hb : 0 < n → ¬ (inR nd 0 60 ∧ inR sd 1 999999 ∧ inB wh 2) → kk (some (.inl eBAD)) (CU H K V W))
    (hg : ∀ m s c0 T V' W', 0 < n → m ≤ 60 → nd = nI m → 1 ≤ s → s ≤ 999999 → sd = nI s → inB wh 2 → (∀ j, j < 8 → c0 j = W 100 j) → T = deS (pA H (hfR H 604 (y + 1)) 106) (pA H (hfR H 604 (y + 1)) 108) (pA H (hfR H 604 (y + 1)) 109) (pI H (hfR H 604 (y + 1)) 100) n cm s c0 (V 503 10) m → VE V V' → WE W W' → kk (some (.inl (if wh = 0 then stP (pA H (hfR H 604 (y + 1)) 106) (posB T.2.1) n else T.2.2.1))) (CU H K V' W')) : CL (d + 4) mX6_drawn 0 0 [.inr (.inr (7, y + 1)), .inl nd, .inl sd, .inl wh] (CU H K V W) kk := by
  have n8 := hn.1.2
  have c4 := hn.2.2
  have hp0 := hS.pl.1.1
  obtain ⟨⟨fa1, fa2, fa3⟩, ⟨fa4, fa5, fa6⟩, -⟩ := hS.fore
  refine mw T_X6_drawn (fun Wm go => go (cut1 54) 80 0 _ _ _ _ _ ?_)
  refine c_hasCastle hS hn (fun q0 => br1 ?_) (fun q0 => br0 (hs q0))
  have hb := hb q0
  refine And.intro (fun u1 => hb (fun z => Int32.not_lt.mpr z.1.1 u1)) (fun u1 => And.intro (fun u2 => hb (fun z => Int32.not_lt.mpr z.1.2 u2)) (fun u2 => And.intro (fun u3 => hb (fun z => Int32.not_lt.mpr z.2.1.1 u3)) (fun u3 => And.intro (fun u4 => hb (fun z => Int32.not_lt.mpr z.2.1.2 u4)) (fun u4 => ?_))))
  refine c_isBelow (m := 2) rfl (by omega) (fun u5 => br1 ?_) (fun u5 => br0 (hb (fun z => u5 z.2.2)))
  obtain ⟨m, hm60, rfl⟩ := nI_of2 (n := 60) (by decide) u1 (Int32.not_lt.mp u2)
  obtain ⟨s, hs9, rfl⟩ := nI_of2 (n := 999999) (by decide) (Int32.not_lt.mpr (Int32.le_trans (by decide) (Int32.not_lt.mp u3))) (Int32.not_lt.mp u4)
  have hs1 : 1 ≤ s := (nI_leI (a := 1) (by omega) (by omega)).mp (Int32.not_lt.mp u3)
  have hg := fun c0 T V' W' => hg m s c0 T V' W' q0 hm60 rfl hs1 hs9 rfl u5
  refine nz fa1 ?_
  refine c_become hS.k (CU_e _ _ _ _ _ _) hS.fore (CU_e _ _ _ _ _ _) hS.now ?_
  obtain ⟨V1, hV1⟩ : ∃ V1 : Nat → Nat → Int32, V1 = up2 (beV V 27 0) 502 37 0 := ⟨_, rfl⟩
  obtain ⟨W1, hW1⟩ : ∃ W1 : Nat → Nat → Int32, W1 = beW W 27 0 := ⟨_, rfl⟩
  have v2 : V1 502 37 = 0 := by rw [hV1]; rfl
  have v3 : V1 503 37 = V 503 10 := by rw [hV1]; rfl
  have vo : VE V V1 := by
    intro f s b1 b2 b3
    rw [hV1]
    show up2 (up2 (up2 V 502 37 _) 503 37 _) 502 37 0 f s = _
    rw [up2_nx b2, up2_nx b2, up2_nx b2]
  have wo : WE W W1 := by
    intro s b1 b2 b3 b4 b5 b6 b7
    rw [hW1]
    show va_up (va_up W 127 _) 227 _ s = _
    rw [va_up_ne _ _ b6, va_up_ne _ _ b4]
  have wa : ∀ j, j < 8 → W1 127 j = W 100 j := by
    intro j hj
    rw [hW1]
    show va_up (va_up W 127 (va_cpy (W 100) (W 127) 0 0 8)) 227 _ 127 j = _
    rw [va_up_ne _ _ (by decide), va_up_self]
    unfold va_cpy
    rw [if_pos (by omega)]
    congr 1
    omega
  obtain ⟨c0, hc0⟩ : ∃ c0 : Nat → Int32, c0 = W1 127 := ⟨_, rfl⟩
  rw [← hc0] at wa
  have hra := fun k (hk : k ≤ 60) => hra s c0 k hk wa
  have hg := fun T V' W' => hg c0 T V' W' wa
  refine go (cut1 69) 60 54 _ _ _ _ _ ?_
  refine nz fa1 ?_
  refine wmc (Wm := Wm) (L' := [some (.inr (.inr (7, y + 1))), some (.inl (nI m)), some (.inl (nI s)), some (.inl wh), some (.inr (.inl (lN s))), none, some (.inl 0)]) (h' := CU H K V1 W1) ?_ ?_ ?_
  rotate_left
  · show [some (Sum.inr (Sum.inr (7, y + 1))), some (Sum.inl (nI m)), some (Sum.inl (nI s)), some (Sum.inl wh), some (Sum.inr (Sum.inl (nI s).toInt64)), none, some (Sum.inl 0)] = _
    rw [nI_l (by omega)]
  · rw [hV1, hW1]
    exact CU_wI hS.k fa2 (by decide)
  obtain ⟨DE, hDE⟩ : ∃ DE : Nat → Nat × (Nat → Int32) × Int32 × Int32, DE = deS (pA H (hfR H 604 (y + 1)) 106) (pA H (hfR H 604 (y + 1)) 108) (pA H (hfR H 604 (y + 1)) 109) (pI H (hfR H 604 (y + 1)) 100) n cm s c0 (V 503 10) := ⟨_, rfl⟩
  have hDs : ∀ k, DE (k + 1) = (drX (DE k).1, deR (pA H (hfR H 604 (y + 1)) 106) (pI H (hfR H 604 (y + 1)) 100) n (drX (DE k).1) (dwS (pA H (hfR H 604 (y + 1)) 108) (pA H (hfR H 604 (y + 1)) 109) n cm (drX (DE k).1) (DE k).2.1 (DE k).2.2.1 (DE k).2.2.2).1, (dwS (pA H (hfR H 604 (y + 1)) 108) (pA H (hfR H 604 (y + 1)) 109) n cm (drX (DE k).1) (DE k).2.1 (DE k).2.2.1 (DE k).2.2.2).2, (DE k).2.2.2 + 1) := fun k => by rw [hDE]; rfl
  have hD0 : DE 0 = (s, c0, 0, V 503 10) := by rw [hDE]; rfl
  have hlt : ∀ k, (DE k).1 < 2147483647 := by rw [hDE]; exact deS_lt (by omega)
  rw [← hDE] at hg hra
  rw [show lN s = lN (DE 0).1 by rw [hD0]]
  refine upto (n := m) (P := fun k => ∀ Vk Wk, Vk 502 37 = (DE k).2.2.1 → Vk 503 37 = (DE k).2.2.2 → Wk 127 = (DE k).2.1 → VE V Vk → WE W Wk → Wm 69 [some (.inr (.inr (7, y + 1))), some (.inl (nI m)), some (.inl (nI s)), some (.inl wh), some (.inr (.inl (lN (DE k).1))), none, some (.inl (nI k))] [] (CU H K Vk Wk) 0 0) (fun k hkm ih Vk Wk k1 k2 k3 k4 k5 => ?_) 0 (Nat.zero_le _) V1 W1 ?_ ?_ ?_ vo wo
  · refine go (cut2 87 134) 90 69 _ _ _ _ _ ?_
    refine icg rfl rfl (by omega) (by omega) (fun z => ?_) (fun z => ?_)
    · have e : k = m := by omega
      subst e
      have hg := hg _ Vk Wk rfl k4 k5
      refine go cut0 60 134 _ _ _ _ _ ?_
      refine And.intro (fun w => ?_) (fun w => ?_)
      · have w : wh = 0 := w
        rw [if_pos w, ← k3] at hg
        refine nz fa1 ?_
        refine c_withChalk (CU_e _ _ _ _ _ _) hS.fore ?_
        refine nz hp0 ?_
        refine c_standing (CU_e _ _ _ _ _ _) hS.pl hn ?_
        rw [stC_e n8]
        exact hg
      · have w : ¬ wh = 0 := w
        rw [if_neg w, ← k1] at hg
        refine nz fa1 ?_
        exact kki hg (CU_fI fa2 (by decide)) rfl
    · have ih := ih z
      have hX := hlt k
      have hra := hra k (by omega)
      have hDs := hDs k
      rw [hDs, ← nI_1 k] at ih
      generalize DE k = T at *
      obtain ⟨X, c, du, dy⟩ := T
      dsimp only at *
      have hY : drX X < 2147483647 := Nat.mod_lt _ (by omega)
      have eY : lN X * 16807 - lN X * 16807 / 2147483647 * 2147483647 = lN (drX X) := by
        rw [show (16807 : Int64) = lN 16807 from rfl, lN_mul]
        exact lmod rfl (show (2147483647 : Int64) = lN 2147483647 from rfl) (by omega) (by omega) (by omega)
      refine And.intro (by decide) ?_
      refine wmc (Wm := Wm) (L' := [some (.inr (.inr (7, y + 1))), some (.inl (nI m)), some (.inl (nI s)), some (.inl wh), some (.inr (.inl (lN (drX X)))), none, some (.inl (nI k))]) ?_ ?_ rfl
      rotate_left
      · show [some (Sum.inr (Sum.inr (7, y + 1))), some (Sum.inl (nI m)), some (Sum.inl (nI s)), some (Sum.inl wh), some (Sum.inr (Sum.inl (lN X * 16807 - lN X * 16807 / 2147483647 * 2147483647))), none, some (Sum.inl (nI k))] = _
        rw [eY]
      generalize drX X = Y at *
      obtain ⟨D, hD⟩ : ∃ D : (Nat → Int32) × Int32, D = dwS (pA H (hfR H 604 (y + 1)) 108) (pA H (hfR H 604 (y + 1)) 109) n cm Y c du dy := ⟨_, rfl⟩
      rw [← hD] at ih hra
      have at115 : ∀ V3 W3, V3 502 37 = D.2 → V3 503 37 = dy → W3 127 = deR (pA H (hfR H 604 (y + 1)) 106) (pI H (hfR H 604 (y + 1)) 100) n Y D.1 → VE V V3 → WE W W3 → Wm 115 [some (.inr (.inr (7, y + 1))), some (.inl (nI m)), some (.inl (nI s)), some (.inl wh), some (.inr (.inl (lN Y))), none, some (.inl (nI k))] [] (CU H K V3 W3) 0 0 := by
        intro V3 W3 b1 b2 b3 b4 b5
        have e3 : hfI (CU H K V3 W3) 503 (hfR (CU H K V3 W3) 611 (y + 1)) = dy := (CU_fI fa2 (by decide)).trans b2
        refine go (cut1 128) 40 115 _ _ _ _ _ ?_
        refine nz fa1 (nz fa1 ?_)
        refine wmc (Wm := Wm) (h' := CU H K (up2 V3 503 37 (dy + 1)) W3) ?_ rfl ?_
        · have e := ih (up2 V3 503 37 (dy + 1)) W3 ((up2_nf (by decide)).trans b1) up2_eq b3 (fun f s q1 q2 q3 => (up2_nx q2).trans (b4 f s q1 q2 q3)) b5
          exact go (cut1 69) 20 128 _ _ _ _ _ e
        · rw [e3]
          exact CU_wI hS.k fa2 (by decide)
      refine go (cut2 115 69) 80 87 _ _ _ _ _ ?_
      refine c_drawWriting hY q0 hS hn D (by rw [k1, k2, k3]; exact hD) ?_
      have d2 : up2 Vk 502 37 D.2 502 37 = D.2 := up2_eq
      have d3 : up2 Vk 502 37 D.2 503 37 = dy := (up2_nf (by decide)).trans k2
      have d4 : VE V (up2 Vk 502 37 D.2) := fun f s q1 q2 q3 => (up2_nx q2).trans (k4 f s q1 q2 q3)
      have d5 : WE W (va_up Wk 127 D.1) := fun s q1 q2 q3 q4 q5 q6 q7 => (va_up_ne _ _ q4).trans (k5 s q1 q2 q3 q4 q5 q6 q7)
      have d6 : va_up Wk 127 D.1 127 = D.1 := va_up_self _ _ _
      generalize up2 Vk 502 37 D.2 = Vm at *
      generalize va_up Wk 127 D.1 = Wm' at *
      refine And.intro (by decide) ?_
      refine lcmpv (q := Y % 4) (lmod rfl (show (4 : Int64) = lN 4 from rfl) (by omega) (by omega) (by omega)) (by omega) (fun w => ?_) (fun w => ?_)
      · refine nz hp0 ?_
        refine c_letRain hS.k (CU_e _ _ _ _ _ _) hS.pl hn (CU_e _ _ _ _ _ _) hS.fore ?_ ?_
        · intro j hj
          show maxI 0 (Wm' 127 j - _) = if _ < Wm' 127 j then Wm' 127 j - _ else 0
          rw [d6]
          exact hra j hj
        · refine at115 Vm _ d2 d3 ?_ d4 (fun s q1 q2 q3 q4 q5 q6 q7 => (va_up_ne _ _ q4).trans (d5 s q1 q2 q3 q4 q5 q6 q7))
          refine (va_up_self _ _ _).trans ?_
          show rainF (Wm' 127) _ _ n n = deR _ _ n Y D.1
          rw [d6]
          exact (if_pos w).symm
      · refine at115 Vm Wm' d2 d3 ?_ d4 d5
        rw [d6]
        exact (if_neg (by omega)).symm
  · rw [hD0]; exact v2
  · rw [hD0]; exact v3
  · rw [hD0]; exact hc0.symm
end C32
