/-! ===== the class: plans that become others ===== -/
/-- the heap with the plan p's cells anew -/
def RP (h : hp) (p : Nat) (P : Nat → Int32) (B : Nat → Nat → Int32) : hp :=
  (fun f z => if z = p then P f else h.1 f z, h.2.1, fun z => if z = h.2.1 105 p then B 105 else if z = h.2.1 106 p then B 106 else if z = h.2.1 107 p then B 107 else if z = h.2.1 108 p then B 108 else if z = h.2.1 109 p then B 109 else h.2.2.1 z, h.2.2.2)
abbrev f59 (f : Nat) : Prop := f = 105 ∨ f = 106 ∨ f = 107 ∨ f = 108 ∨ f = 109
section P1
variable {H : hp} {K : Nat → Nat} {V W : Nat → Nat → Int32} {p q o q' : Nat} {P : Nat → Int32} {B : Nat → Nat → Int32}
theorem PQ.kf (h : PQ H K p q) {f : Nat} (hf : f59 f) : K (hfR H f p) = 315 + f + 10 * q ∧ hfR H f p ≠ 0 := by
  obtain ⟨-, ⟨b1, b2, -⟩, ⟨c1, c2, -⟩, ⟨d1, d2, -⟩, ⟨e1, e2, -⟩, ⟨g1, g2, -⟩⟩ := h
  rcases hf with rfl | rfl | rfl | rfl | rfl
  · exact ⟨by omega, b1⟩
  · exact ⟨by omega, c1⟩
  · exact ⟨by omega, d1⟩
  · exact ⟨by omega, e1⟩
  · exact ⟨by omega, g1⟩
theorem PQ.ne (h : PQ H K p q) {f g : Nat} (hf : f59 f) (hg : f59 g) (hne : f ≠ g) : hfR H f p ≠ hfR H g p := fun e => by
  have h1 := (h.kf hf).1
  have h2 := (h.kf hg).1
  rw [e] at h1
  omega
theorem RP_p (f : Nat) : hfI (RP H p P B) f p = P f := if_pos rfl
theorem RP_B (h : PQ H K p q) {f : Nat} (hf : f59 f) : haI (RP H p P B) (hfR H f p) = B f := by
  have n := fun g hg hne => h.ne hf (g := g) hg hne
  show (if hfR H f p = hfR H 105 p then B 105 else if hfR H f p = hfR H 106 p then B 106 else if hfR H f p = hfR H 107 p then B 107 else if hfR H f p = hfR H 108 p then B 108 else if hfR H f p = hfR H 109 p then B 109 else haI H (hfR H f p)) = B f
  rcases hf with rfl | rfl | rfl | rfl | rfl
  · rw [if_pos rfl]
  · rw [if_neg (n 105 (by decide) (by decide)), if_pos rfl]
  · rw [if_neg (n 105 (by decide) (by decide)), if_neg (n 106 (by decide) (by decide)), if_pos rfl]
  · rw [if_neg (n 105 (by decide) (by decide)), if_neg (n 106 (by decide) (by decide)), if_neg (n 107 (by decide) (by decide)), if_pos rfl]
  · rw [if_neg (n 105 (by decide) (by decide)), if_neg (n 106 (by decide) (by decide)), if_neg (n 107 (by decide) (by decide)), if_neg (n 108 (by decide) (by decide)), if_pos rfl]
/-- what is no cell of the plan stays -/
theorem RP_z (h : PQ H K p q) {z : Nat} (h1 : K z ≠ 410 + q) (h2 : K z < 420 + 10 * q ∨ 424 + 10 * q < K z) : (∀ f, hfI (RP H p P B) f z = hfI H f z) ∧ haI (RP H p P B) z = haI H z := by
  have n : ∀ f, f59 f → z ≠ hfR H f p := fun f hf e => by
    have h3 := (h.kf hf).1
    rw [← e] at h3
    rcases hf with rfl | rfl | rfl | rfl | rfl <;> omega
  refine ⟨fun f => if_neg (fun e => h1 (by rw [e]; exact h.1.2.1)), ?_⟩
  show (if z = hfR H 105 p then B 105 else if z = hfR H 106 p then B 106 else if z = hfR H 107 p then B 107 else if z = hfR H 108 p then B 108 else if z = hfR H 109 p then B 109 else haI H z) = haI H z
  rw [if_neg (n 105 (by decide)), if_neg (n 106 (by decide)), if_neg (n 107 (by decide)), if_neg (n 108 (by decide)), if_neg (n 109 (by decide))]
/-- another plan stays -/
theorem RP_o (h : PQ H K p q) (h' : PQ H K o q') (hne : q ≠ q') : (∀ f, hfI (RP H p P B) f o = hfI H f o) ∧ ∀ f, f59 f → haI (RP H p P B) (hfR H f o) = haI H (hfR H f o) := by
  have q4 := h.1.2.2
  have q4' := h'.1.2.2
  refine ⟨(RP_z h (by rw [h'.1.2.1]; omega) (by rw [h'.1.2.1]; omega)).1, fun f hf => (RP_z h ?_ ?_).2⟩
  · rw [(h'.kf hf).1]
    rcases hf with rfl | rfl | rfl | rfl | rfl <;> omega
  · rw [(h'.kf hf).1]
    rcases hf with rfl | rfl | rfl | rfl | rfl <;> omega
theorem RP_self (H : hp) (p : Nat) : RP H p (fun f => hfI H f p) (fun f => haI H (hfR H f p)) = H := by
  unfold RP
  refine Prod.ext ?_ (Prod.ext rfl (Prod.ext ?_ rfl))
  · funext f z
    show (if z = p then hfI H f p else H.1 f z) = H.1 f z
    by_cases c : z = p
    · rw [if_pos c, c]; rfl
    · rw [if_neg c]
  · funext z
    show (if z = hfR H 105 p then haI H (hfR H 105 p) else if z = hfR H 106 p then haI H (hfR H 106 p) else if z = hfR H 107 p then haI H (hfR H 107 p) else if z = hfR H 108 p then haI H (hfR H 108 p) else if z = hfR H 109 p then haI H (hfR H 109 p) else haI H z) = haI H z
    by_cases c1 : z = hfR H 105 p
    · rw [if_pos c1, c1]
    rw [if_neg c1]
    by_cases c2 : z = hfR H 106 p
    · rw [if_pos c2, c2]
    rw [if_neg c2]
    by_cases c3 : z = hfR H 107 p
    · rw [if_pos c3, c3]
    rw [if_neg c3]
    by_cases c4 : z = hfR H 108 p
    · rw [if_pos c4, c4]
    rw [if_neg c4]
    by_cases c5 : z = hfR H 109 p
    · rw [if_pos c5, c5]
    rw [if_neg c5]
theorem RP_wP (h : PQ H K p q) (f : Nat) (v : Int32) : wfI (CU (RP H p P B) K V W) f p v = CU (RP H p (upd P f v) B) K V W := by
  rw [CU_wIo (by rw [h.1.2.1]; omega)]
  congr 1
  unfold wfI RP
  refine Prod.ext ?_ rfl
  funext f' z
  show up2 (fun f z => if z = p then P f else H.1 f z) f p v f' z = (if z = p then upd P f v f' else H.1 f' z)
  unfold up2 upd
  by_cases c1 : z = p <;> by_cases c2 : f' = f <;> simp [c1, c2]
theorem RP_wB (h : PQ H K p q) {f : Nat} (hf : f59 f) (g : Nat → Int32) : waI (CU (RP H p P B) K V W) (hfR H f p) g = CU (RP H p P (va_up B f g)) K V W := by
  rw [CU_waIo (by rw [(h.kf hf).1]; rcases hf with rfl | rfl | rfl | rfl | rfl <;> omega)]
  congr 1
  have n := fun f' g' hf' hg' hne => h.ne (f := f') (g := g') hf' hg' hne
  unfold waI RP
  refine Prod.ext rfl (Prod.ext rfl (Prod.ext ?_ rfl))
  funext z
  show va_up (fun z => if z = hfR H 105 p then B 105 else if z = hfR H 106 p then B 106 else if z = hfR H 107 p then B 107 else if z = hfR H 108 p then B 108 else if z = hfR H 109 p then B 109 else H.2.2.1 z) (hfR H f p) g z = (if z = hfR H 105 p then va_up B f g 105 else if z = hfR H 106 p then va_up B f g 106 else if z = hfR H 107 p then va_up B f g 107 else if z = hfR H 108 p then va_up B f g 108 else if z = hfR H 109 p then va_up B f g 109 else H.2.2.1 z)
  by_cases c : z = hfR H f p
  · rw [c, va_up_self]
    rcases hf with rfl | rfl | rfl | rfl | rfl
    · rw [if_pos rfl, va_up_self]
    · rw [if_neg (n 106 105 (by decide) (by decide) (by decide)), if_pos rfl, va_up_self]
    · rw [if_neg (n 107 105 (by decide) (by decide) (by decide)), if_neg (n 107 106 (by decide) (by decide) (by decide)), if_pos rfl, va_up_self]
    · rw [if_neg (n 108 105 (by decide) (by decide) (by decide)), if_neg (n 108 106 (by decide) (by decide) (by decide)), if_neg (n 108 107 (by decide) (by decide) (by decide)), if_pos rfl, va_up_self]
    · rw [if_neg (n 109 105 (by decide) (by decide) (by decide)), if_neg (n 109 106 (by decide) (by decide) (by decide)), if_neg (n 109 107 (by decide) (by decide) (by decide)), if_neg (n 109 108 (by decide) (by decide) (by decide)), if_pos rfl, va_up_self]
  · rw [va_up_ne _ _ c]
    have w : ∀ g', g' ≠ f → va_up B f g g' = B g' := fun g' hne => va_up_ne _ _ hne
    rcases hf with rfl | rfl | rfl | rfl | rfl
    · rw [if_neg c, if_neg c, w 106 (by decide), w 107 (by decide), w 108 (by decide), w 109 (by decide)]
    · rw [if_neg (c := z = hfR H 106 p) c, if_neg (c := z = hfR H 106 p) c, w 105 (by decide), w 107 (by decide), w 108 (by decide), w 109 (by decide)]
    · rw [if_neg (c := z = hfR H 107 p) c, if_neg (c := z = hfR H 107 p) c, w 105 (by decide), w 106 (by decide), w 108 (by decide), w 109 (by decide)]
    · rw [if_neg (c := z = hfR H 108 p) c, if_neg (c := z = hfR H 108 p) c, w 105 (by decide), w 106 (by decide), w 107 (by decide), w 109 (by decide)]
    · rw [if_neg (c := z = hfR H 109 p) c, if_neg (c := z = hfR H 109 p) c, w 105 (by decide), w 106 (by decide), w 107 (by decide), w 108 (by decide)]
theorem RP_cpy {m : Nat} (h : PQ H K p q) (h' : PQ H K o q') (hne : q ≠ q') {f : Nat} (hf : f59 f) : waI (CU (RP H p P B) K V W) (hfR H f p) (va_cpy (haI (CU (RP H p P B) K V W) (hfR H f o)) (haI (CU (RP H p P B) K V W) (hfR H f p)) 0 0 m) = CU (RP H p P (va_up B f (va_cpy (pA H o f) (B f) 0 0 m))) K V W := by
  have k1 : 400 ≤ K (hfR H f p) := by rw [(h.kf hf).1]; rcases hf with rfl | rfl | rfl | rfl | rfl <;> omega
  have k2 : 400 ≤ K (hfR H f o) := by rw [(h'.kf hf).1]; rcases hf with rfl | rfl | rfl | rfl | rfl <;> omega
  rw [RP_wB h hf, CU_aIo k1, CU_aIo k2, RP_B h hf, (RP_o h h' hne).2 f hf]
theorem cpy0 {f g : Nat → Int32} {m j : Nat} (hj : j < m) : va_cpy f g 0 0 m j = f j := by
  unfold va_cpy
  rw [if_pos (by omega)]
  congr 1
  omega
/-- P, B are what the plan o has -/
def PEQ (H : hp) (o : Nat) (P : Nat → Int32) (B : Nat → Nat → Int32) : Prop := (P 100 = pI H o 100 ∧ P 101 = pI H o 101 ∧ P 102 = pI H o 102 ∧ P 103 = pI H o 103 ∧ P 104 = pI H o 104) ∧ (∀ j, j < 8 → B 105 j = pA H o 105 j ∧ B 106 j = pA H o 106 j ∧ B 107 j = pA H o 107 j) ∧ ∀ j, j < 4 → B 108 j = pA H o 108 j ∧ B 109 j = pA H o 109 j
set_option maxRecDepth 20000 in
theorem c_pbecome {d p' o' : Nat} {kk : Rt} (ep : p' = p) (h1 : PQ H K p q) (eo : o' = o) (h2 : PQ H K o q') (hne : q ≠ q') (hk : ∀ P B, PEQ H o P B → kk none (CU (RP H p P B) K V W)) : CL (d + 1) mX1_become 0 0 [.inr (.inr (2, p')), .inr (.inr (2, o'))] (CU H K V W) kk := by
  subst ep
  subst eo
  obtain ⟨p, rfl⟩ : ∃ z, p' = z + 1 := ⟨p' - 1, by have := h1.1.1; omega⟩
  obtain ⟨o, rfl⟩ : ∃ z, o' = z + 1 := ⟨o' - 1, by have := h2.1.1; omega⟩
  have z1 := fun f hf => (h1.kf (f := f) hf).2
  have z2 := fun f hf => (h2.kf (f := f) hf).2
  have lo : 400 ≤ K (o + 1) := by rw [h2.1.2.1]; omega
  have rd : ∀ P B f, hfI (CU (RP H (p + 1) P B) K V W) f (o + 1) = pI H (o + 1) f := fun P B f => (CU_fIo lo).trans ((RP_o h1 h2 hne).1 f)
  have l8 : ∀ f, f = 105 ∨ f = 106 ∨ f = 107 → haL H (hfR H f (p + 1)) = 8 ∧ haL H (hfR H f (o + 1)) = 8 := by
    rintro f (rfl | rfl | rfl)
    · exact ⟨h1.2.1.2.2, h2.2.1.2.2⟩
    · exact ⟨h1.2.2.1.2.2, h2.2.2.1.2.2⟩
    · exact ⟨h1.2.2.2.1.2.2, h2.2.2.2.1.2.2⟩
  have l4 : ∀ f, f = 108 ∨ f = 109 → haL H (hfR H f (p + 1)) = 4 ∧ haL H (hfR H f (o + 1)) = 4 := by
    rintro f (rfl | rfl)
    · exact ⟨h1.2.2.2.2.1.2.2, h2.2.2.2.2.1.2.2⟩
    · exact ⟨h1.2.2.2.2.2.2.2, h2.2.2.2.2.2.2.2⟩
  obtain ⟨P0, hP0⟩ : ∃ P0 : Nat → Int32, P0 = fun f => hfI H f (p + 1) := ⟨_, rfl⟩
  obtain ⟨B0, hB0⟩ : ∃ B0 : Nat → Nat → Int32, B0 = fun f => haI H (hfR H f (p + 1)) := ⟨_, rfl⟩
  have e0 : CU H K V W = CU (RP H (p + 1) P0 B0) K V W := by rw [hP0, hB0, RP_self]
  rw [e0]
  clear hP0 hB0 e0
  refine mw T_X1_become (fun Wm go => go (cut1 8) 60 0 _ _ _ _ _ ?_)
  refine wmc (Wm := Wm) ?_ rfl (RP_wP h1 100 _)
  rw [rd]
  refine go (cut1 16) 60 8 _ _ _ _ _ ?_
  refine wmc (Wm := Wm) ?_ rfl (RP_wP h1 101 _)
  rw [rd]
  refine go (cut1 24) 60 16 _ _ _ _ _ ?_
  refine wmc (Wm := Wm) ?_ rfl (RP_wP h1 102 _)
  rw [rd]
  refine go (cut1 32) 60 24 _ _ _ _ _ ?_
  refine wmc (Wm := Wm) ?_ rfl (RP_wP h1 103 _)
  rw [rd]
  refine go (cut1 40) 60 32 _ _ _ _ _ ?_
  refine wmc (Wm := Wm) ?_ rfl (RP_wP h1 104 _)
  rw [rd]
  refine go (cut1 55) 60 40 _ _ _ _ _ ?_
  refine nz (z2 105 (by decide)) (nz (z1 105 (by decide)) (And.intro ⟨by decide, by decide, by decide, ?_, ?_⟩ ?_))
  · show 0 + 8 ≤ haL H (hfR H 105 (o + 1))
    rw [(l8 105 (by decide)).2]; decide
  · show 0 + 8 ≤ haL H (hfR H 105 (p + 1))
    rw [(l8 105 (by decide)).1]; decide
  refine wmc (Wm := Wm) ?_ rfl (RP_cpy (m := 8) h1 h2 hne (f := 105) (by decide))
  refine go (cut1 70) 60 55 _ _ _ _ _ ?_
  refine nz (z2 106 (by decide)) (nz (z1 106 (by decide)) (And.intro ⟨by decide, by decide, by decide, ?_, ?_⟩ ?_))
  · show 0 + 8 ≤ haL H (hfR H 106 (o + 1))
    rw [(l8 106 (by decide)).2]; decide
  · show 0 + 8 ≤ haL H (hfR H 106 (p + 1))
    rw [(l8 106 (by decide)).1]; decide
  refine wmc (Wm := Wm) ?_ rfl (RP_cpy (m := 8) h1 h2 hne (f := 106) (by decide))
  refine go (cut1 85) 60 70 _ _ _ _ _ ?_
  refine nz (z2 107 (by decide)) (nz (z1 107 (by decide)) (And.intro ⟨by decide, by decide, by decide, ?_, ?_⟩ ?_))
  · show 0 + 8 ≤ haL H (hfR H 107 (o + 1))
    rw [(l8 107 (by decide)).2]; decide
  · show 0 + 8 ≤ haL H (hfR H 107 (p + 1))
    rw [(l8 107 (by decide)).1]; decide
  refine wmc (Wm := Wm) ?_ rfl (RP_cpy (m := 8) h1 h2 hne (f := 107) (by decide))
  refine go (cut1 99) 60 85 _ _ _ _ _ ?_
  refine nz (z2 108 (by decide)) (nz (z1 108 (by decide)) (And.intro ⟨by decide, by decide, by decide, ?_, ?_⟩ ?_))
  · show 0 + 4 ≤ haL H (hfR H 108 (o + 1))
    rw [(l4 108 (by decide)).2]; decide
  · show 0 + 4 ≤ haL H (hfR H 108 (p + 1))
    rw [(l4 108 (by decide)).1]; decide
  refine wmc (Wm := Wm) ?_ rfl (RP_cpy (m := 4) h1 h2 hne (f := 108) (by decide))
  refine go (cut1 113) 60 99 _ _ _ _ _ ?_
  refine nz (z2 109 (by decide)) (nz (z1 109 (by decide)) (And.intro ⟨by decide, by decide, by decide, ?_, ?_⟩ ?_))
  · show 0 + 4 ≤ haL H (hfR H 109 (o + 1))
    rw [(l4 109 (by decide)).2]; decide
  · show 0 + 4 ≤ haL H (hfR H 109 (p + 1))
    rw [(l4 109 (by decide)).1]; decide
  refine wmc (Wm := Wm) ?_ rfl (RP_cpy (m := 4) h1 h2 hne (f := 109) (by decide))
  refine go cut0 20 113 _ _ _ _ _ ?_
  refine hk _ _ ⟨⟨rfl, rfl, rfl, rfl, rfl⟩, fun j hj => ⟨?_, ?_, ?_⟩, fun j hj => ⟨?_, ?_⟩⟩
  · rw [va_up_ne _ _ (by decide), va_up_ne _ _ (by decide), va_up_ne _ _ (by decide), va_up_ne _ _ (by decide), va_up_self]; exact cpy0 hj
  · rw [va_up_ne _ _ (by decide), va_up_ne _ _ (by decide), va_up_ne _ _ (by decide), va_up_self]; exact cpy0 hj
  · rw [va_up_ne _ _ (by decide), va_up_ne _ _ (by decide), va_up_self]; exact cpy0 hj
  · rw [va_up_ne _ _ (by decide), va_up_self]; exact cpy0 hj
  · rw [va_up_self]; exact cpy0 hj
end P1
