/-! ===== the class: what is made anew ===== -/
/-- H' holds all that H holds -/
def EX (H H' : hp) : Prop := hz H ≤ hz H' ∧ ∀ z, z < hz H → (∀ f, hfI H' f z = hfI H f z) ∧ (∀ f, hfR H' f z = hfR H f z) ∧ haI H' z = haI H z ∧ haL H' z = haL H z ∧ haR H' z = haR H z
/-- codes not yet given are no cell of the class -/
def KZ (H : hp) (K : Nat → Nat) : Prop := ∀ z, hz H ≤ z → 400 ≤ K z
def PZ (H : hp) (p : Nat) : Prop := p < hz H ∧ hfR H 105 p < hz H ∧ hfR H 106 p < hz H ∧ hfR H 107 p < hz H ∧ hfR H 108 p < hz H
theorem EX.rf (H : hp) : EX H H := ⟨Nat.le_refl _, fun _ _ => ⟨fun _ => rfl, fun _ => rfl, rfl, rfl, rfl⟩⟩
theorem EX.tr {H H' H'' : hp} (a : EX H H') (b : EX H' H'') : EX H H'' := ⟨Nat.le_trans a.1 b.1, fun z hz' => by
  obtain ⟨x1, x2, x3, x4, x5⟩ := a.2 z hz'
  obtain ⟨y1, y2, y3, y4, y5⟩ := b.2 z (Nat.lt_of_lt_of_le hz' a.1)
  exact ⟨fun f => (y1 f).trans (x1 f), fun f => (y2 f).trans (x2 f), y3.trans x3, y4.trans x4, y5.trans x5⟩⟩
section C11
variable {H H' : hp} {K : Nat → Nat} {V W : Nat → Nat → Int32}
theorem KZ.lt (h : KZ H K) {z : Nat} (hk : K z < 400) : z < hz H := by
  apply Nat.lt_of_not_le
  intro q
  have := h z q
  omega
theorem KZ.ex (h : KZ H K) (e : EX H H') : KZ H' K := fun z hz' => h z (Nat.le_trans e.1 hz')
theorem PZ.ex {p : Nat} (h : PZ H p) (e : EX H H') : PZ H' p := by
  obtain ⟨h1, h2, h3, h4, h5⟩ := h
  have r := (e.2 p h1).2.1
  have := e.1
  refine ⟨by omega, ?_, ?_, ?_, ?_⟩ <;> rw [r] <;> omega
theorem SS.ex {z s : Nat} (h : SS H K z s) (hK : KZ H K) (e : EX H H') : SS H' K z s := by
  obtain ⟨⟨a1, a2, a3⟩, ⟨a4, a5, a6⟩, ⟨a7, a8, a9⟩⟩ := h
  have r := (e.2 z (hK.lt (by omega))).2.1
  unfold SS
  rw [r, r]
  exact ⟨⟨a1, a2, a3⟩, ⟨a4, a5, ((e.2 _ (hK.lt (by omega))).2.2.2.1).trans a6⟩, ⟨a7, a8, ((e.2 _ (hK.lt (by omega))).2.2.2.1).trans a9⟩⟩
theorem AR.ex {a s m : Nat} (h : AR H K a s m) (hs : s < 400) (hK : KZ H K) (e : EX H H') : AR H' K a s m := by
  obtain ⟨a1, a2, a3⟩ := h
  exact ⟨a1, a2, ((e.2 _ (hK.lt (by omega))).2.2.2.1).trans a3⟩
theorem PP.ex {p : Nat} (h : PP H K p) (hp : PZ H p) (e : EX H H') : PP H' K p := by
  obtain ⟨h1, h2, h3, h4, h5⟩ := hp
  obtain ⟨a1, ⟨b1, b2, b3⟩, ⟨c1, c2, c3⟩, ⟨d1, d2, d3⟩, ⟨f1, f2, f3⟩⟩ := h
  have r := (e.2 p h1).2.1
  unfold PP
  rw [r, r, r, r]
  exact ⟨a1, ⟨b1, b2, ((e.2 _ h2).2.2.2.1).trans b3⟩, ⟨c1, c2, ((e.2 _ h3).2.2.2.1).trans c3⟩, ⟨d1, d2, ((e.2 _ h4).2.2.2.1).trans d3⟩, ⟨f1, f2, ((e.2 _ h5).2.2.2.1).trans f3⟩⟩
theorem CS.ex {y : Nat} (h : CS H K y) (hK : KZ H K) (hp : PZ H (hfR H 605 y)) (e : EX H H') : CS H' K y := by
  obtain ⟨⟨k1, k2⟩, p1, n1, t1, ⟨a1, a2⟩, i1, ⟨s1, s2⟩, f1, ⟨⟨q1, q2⟩, q3, q4, q5, q6⟩, ⟨⟨u1, u2⟩, u3⟩, r1⟩ := h
  have ry := (e.2 y (hK.lt (by omega))).2.1
  have rs := (e.2 (hfR H 613 y) (hK.lt (by omega))).2.1
  have ra := (e.2 (hfR H 614 y) (hK.lt (by omega))).2.1
  have r1' := (e.2 (hfR H 607 y) (hK.lt (by have := a1.2.1; omega))).2.2.2.2
  have r2' := (e.2 (hfR H 611 y) (hK.lt (by have := s1.2.1; omega))).2.2.2.2
  unfold CS
  rw [ry, ry, ry, ry, ry, ry, ry, ry, ry, ry, rs, rs, rs, rs, ra, r1', r2']
  exact ⟨⟨k1, k2⟩, p1.ex hp e, n1.ex hK e, t1.ex (by omega) hK e, ⟨a1.ex (by omega) hK e, fun i hi => (a2 i hi).ex hK e⟩, i1.ex (by omega) hK e, ⟨s1.ex (by omega) hK e, fun i hi => (s2 i hi).ex hK e⟩, f1.ex hK e, ⟨⟨q1, q2⟩, q3.ex hK e, q4.ex (by omega) hK e, q5.ex (by omega) hK e, q6.ex (by omega) hK e⟩, ⟨⟨u1, u2⟩, u3.ex (by omega) hK e⟩, r1.ex (by omega) hK e⟩
theorem CU_warr {x m : Nat} (hx : 400 ≤ K x) : warr (CU H K V W) x m = CU (warr H x m) K V W := by
  unfold warr CU
  refine Prod.ext rfl (Prod.ext rfl (Prod.ext ?_ rfl))
  funext z
  show va_up (fun z => if K z < 400 then W (K z) else H.2.2.1 z) x (fun _ => 0) z = (if K z < 400 then W (K z) else va_up H.2.2.1 x (fun _ => 0) z)
  by_cases c : z = x
  · subst c
    rw [va_up_self, if_neg (by omega), va_up_self]
  · rw [va_up_ne _ _ c, va_up_ne _ _ c]
theorem CU_waIo {x : Nat} {g : Nat → Int32} (hx : 400 ≤ K x) : waI (CU H K V W) x g = CU (waI H x g) K V W := by
  unfold waI CU
  refine Prod.ext rfl (Prod.ext rfl (Prod.ext ?_ rfl))
  funext z
  show va_up (fun z => if K z < 400 then W (K z) else H.2.2.1 z) x g z = (if K z < 400 then W (K z) else va_up H.2.2.1 x g z)
  by_cases c : z = x
  · subst c
    rw [va_up_self, if_neg (by omega), va_up_self]
  · rw [va_up_ne _ _ c, va_up_ne _ _ c]
theorem EX.warr {x m : Nat} (hx : hz H ≤ x) : EX H (warr H x m) := by
  refine ⟨Nat.le_succ_of_le hx, fun z hz' => ⟨fun _ => rfl, fun _ => rfl, va_up_ne _ _ (by omega), va_up_ne _ _ (by omega), va_up_ne _ _ (by omega)⟩⟩
theorem EX.waI {x : Nat} {g : Nat → Int32} (e : EX H H') (hx : hz H ≤ x) : EX H (waI H' x g) :=
  ⟨e.1, fun z hz' => ⟨(e.2 z hz').1, (e.2 z hz').2.1, (va_up_ne _ _ (by omega)).trans (e.2 z hz').2.2.1, (e.2 z hz').2.2.2.1, (e.2 z hz').2.2.2.2⟩⟩
end C11
/-- the layers, as the class finds them -/
def lyI (onx : Int32) (L : Nat → Int32) : Nat → Int32
  | 0 => 0
  | u + 1 => if hasB onx (nI u) then maxI (lyI onx L u) (L u + 1) else lyI onx L u
def lyF (on : Nat → Int32) : Nat → Nat → Int32
  | 0 => fun _ => 0
  | k + 1 => upd (lyF on k) k (lyI (on k) (lyF on k) k)
theorem lyF_hi (on : Nat → Int32) : ∀ k j, k ≤ j → lyF on k j = 0
  | 0, _, _ => rfl
  | k + 1, j, h => by
    show (if j = k then _ else lyF on k j) = 0
    rw [if_neg (by omega)]
    exact lyF_hi on k j (by omega)
section C12
variable {d y n cm p : Nat} {H : hp} {K : Nat → Nat} {V W : Nat → Nat → Int32} {kk : Rt}
theorem c_layerOf {p' b : Nat} (ep : p' = p) (hP : PP H K p) (hZ : PZ H p) (hK : KZ H K) (hz1 : 0 < hz H) (hb : b < 8) (hk : ∀ H', EX H H' → kk (some (.inl (lyF (pA H p 106) (b + 1) b))) (CU H' K V W)) : CL (d + 1) mX1_layerOf 1 8 [.inr (.inr (2, p')), .inl (nI b)] (CU H K V W) kk := by
  subst ep
  obtain ⟨p, rfl⟩ : ∃ q, p' = q + 1 := ⟨p' - 1, by have := hP.1.1; omega⟩
  refine mw3 T_X1_layerOf (fun Wm go wk => go (cut1 7) 60 0 _ _ _ _ _ ?_)
  refine And.intro (by decide) (And.intro (by decide) (fun x hx => ?_))
  have hx : hz H ≤ x := hx
  have hxK := hK x hx
  have hx0 : x ≠ 0 := by omega
  have p6 := hZ.2.2.1
  obtain ⟨b4, b5, b6⟩ := hP.2.2.1
  have L : ∀ k, k ≤ b + 1 → ∀ H', EX H H' → haL H' x = 8 → haI H' x = lyF (pA H (p + 1) 106) k → Wm 7 [some (.inr (.inr (2, p + 1))), some (.inl (nI b)), some (.inr (.inr (20, x))), some (.inl (nI k)), none] [] (CU H' K V W) 1 8 := by
    refine upto (n := b + 1) (fun k hk1 ih H' hE hl hv => ?_)
    refine go (cut1 15) 60 7 _ _ _ _ _ ?_
    refine And.intro (fun z => ?_) (fun z => ?_)
    · have z : nI b < nI k := z
      have z : b < k := Nat.not_le.mp (fun y => Int32.not_lt.mpr ((nI_leI (by omega) (by omega)).mpr y) z)
      have e : k = b + 1 := by omega
      subst e
      refine cldo hx0 hxK hl (by omega) b rfl hb ?_
      rw [hv]
      exact hk H' hE
    · have z : ¬ nI b < nI k := z
      have z : k ≤ b := (nI_leI (by omega) (by omega)).mp (Int32.not_lt.mp z)
      have ih := ih (by omega)
      refine upto (n := k) (P := fun u => ∀ H', EX H H' → haL H' x = 8 → haI H' x = upd (lyF (pA H (p + 1) 106) k) k (lyI (pA H (p + 1) 106 k) (lyF (pA H (p + 1) 106) k) u) → Wm 15 [some (.inr (.inr (2, p + 1))), some (.inl (nI b)), some (.inr (.inr (20, x))), some (.inl (nI k)), some (.inl (nI u))] [] (CU H' K V W) 1 8) (fun u hu ihu H' hE hl hv => ?_) 0 (Nat.zero_le _) H' hE hl ?_
      · refine go (cut3 7 15 51) 60 15 _ _ _ _ _ ?_
        refine icg rfl rfl (by omega) (by omega) (fun w => ?_) (fun w => ?_)
        · have e : u = k := by omega
          subst e
          have e := ih H' hE hl hv
          rw [← nI_1] at e
          exact wk _ _ _ _ _ _ _ e (by repeat (first | exact ln | refine l0 ?_ | refine l1 rfl ?_))
        · have r6 : hfR H' 106 (p + 1) = hfR H 106 (p + 1) := (hE.2 _ hZ.1).2.1 106
          have o6 : haI H' (hfR H' 106 (p + 1)) = pA H (p + 1) 106 := by rw [r6]; exact (hE.2 _ p6).2.2.1
          have l6 : haL H' (hfR H' 106 (p + 1)) = 8 := by rw [r6]; exact ((hE.2 _ p6).2.2.2.1).trans b6
          have ihu := ihu w
          have hs : lyI (pA H (p + 1) 106 k) (lyF (pA H (p + 1) 106) k) (u + 1) = if hasB (pA H (p + 1) 106 k) (nI u) then maxI (lyI (pA H (p + 1) 106 k) (lyF (pA H (p + 1) 106) k) u) (lyF (pA H (p + 1) 106) k u + 1) else lyI (pA H (p + 1) 106 k) (lyF (pA H (p + 1) 106) k) u := rfl
          rw [hs] at ihu
          refine cldo (a := hfR H' 106 (p + 1)) (by rw [r6]; exact b4) (by rw [r6]; exact b5) l6 (by omega) k rfl (by omega) ?_
          refine And.intro (fun w2 => ?_) (fun w2 => ?_)
          · have w2 : hasB (haI H' (hfR H' 106 (p + 1)) k) (nI u) := w2
            rw [o6] at w2
            rw [if_pos w2] at ihu
            refine cldo hx0 hxK hl (by omega) k rfl (by omega) ?_
            refine cldo hx0 hxK hl (by omega) u rfl (by omega) ?_
            refine nz hx0 (And.intro ?_ ?_)
            · show vp_in (nI k) (haL H' x)
              rw [hl]; exact vp_in_nI (by omega) (by omega)
            · have vk : haI H' x k = lyI (pA H (p + 1) 106 k) (lyF (pA H (p + 1) 106) k) u := by rw [hv]; exact if_pos rfl
              have vu : haI H' x u = lyF (pA H (p + 1) 106) k u := by rw [hv]; exact if_neg (by omega)
              have e := ihu (waI H' x (upd (haI H' x) k (maxI (haI H' x k) (haI H' x u + 1)))) (hE.waI hx) hl ?_
              · refine wmc (Wm := Wm) (h' := CU (waI H' x (upd (haI H' x) k (maxI (haI H' x k) (haI H' x u + 1)))) K V W) ?_ rfl ?_
                · rw [← nI_1 u] at e
                  exact go (cut1 15) 20 51 _ _ _ _ _ e
                · rw [CU_aIo hxK, nI_clamp (by omega), CU_waIo hxK]
              · refine (va_up_self _ _ _).trans ?_
                rw [vk, vu, hv]
                funext j
                show (if j = k then _ else (if j = k then _ else _)) = (if j = k then _ else _)
                by_cases q : j = k
                · rw [if_pos q, if_pos q]
                · rw [if_neg q, if_neg q, if_neg q]
          · have w2 : ¬ hasB (haI H' (hfR H' 106 (p + 1)) k) (nI u) := w2
            rw [o6] at w2
            rw [if_neg w2] at ihu
            have e := ihu H' hE hl hv
            rw [← nI_1 u] at e
            exact go (cut1 15) 20 51 _ _ _ _ _ e
      · rw [hv]
        funext j
        show _ = (if j = k then 0 else _)
        by_cases q : j = k
        · rw [if_pos q, q]; exact lyF_hi _ k k (Nat.le_refl k)
        · rw [if_neg q]
  have st := L 0 (Nat.zero_le _) (warr H x 8) (EX.warr hx) (va_up_self _ _ _) (va_up_self _ _ _)
  rw [← CU_warr hxK] at st
  exact wk _ _ _ _ _ _ _ st (by repeat (first | exact ln | refine l0 ?_ | refine l1 rfl ?_))
theorem c_layer {bl : Int32} (hS : CS H K (y + 1)) (hn : Pn H (hfR H 605 (y + 1)) n cm) (hZ : PZ H (hfR H 605 (y + 1))) (hK : KZ H K) (hz1 : 0 < hz H) (hb : ¬ inB bl n → kk (some (.inl eBAD)) (CU H K V W)) (hg : ∀ b H', b < n → bl = nI b → EX H H' → kk (some (.inl (lyF (pA H (hfR H 605 (y + 1)) 106) (b + 1) b))) (CU H' K V W)) : CL (d + 2) mX6_layer 1 8 [.inr (.inr (7, y + 1)), .inl bl] (CU H K V W) kk := by
  have n8 := hn.1.2
  refine mw T_X6_layer (fun Wm go => go cut0 60 0 _ _ _ _ _ ?_)
  refine nz hS.pl.1.1 ?_
  refine c_hasBlock (CU_e _ _ _ _ _ _) hS.pl hn (fun q1 => br1 ?_) (fun q1 => br0 (hb q1))
  obtain ⟨b, hbn, rfl⟩ := inB_of q1 (by omega)
  refine nz hS.pl.1.1 (And.intro (by decide) ?_)
  exact c_layerOf (CU_e _ _ _ _ _ _) hS.pl hZ hK hz1 (by omega) (fun H' hE => hg b H' hbn rfl hE)
end C12
