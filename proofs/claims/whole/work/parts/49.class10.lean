/-! ===== the class: what is made anew ===== -/
/-- H' holds all that H holds -/
def EX (H H' : hp) : Prop := hz H ≤ hz H' ∧ ∀ z, z < hz H → (∀ f, hfI H' f z = hfI H f z) ∧ (∀ f, hfR H' f z = hfR H f z) ∧ haI H' z = haI H z ∧ haL H' z = haL H z ∧ haR H' z = haR H z
/-- codes not yet given are no cell of the class -/
def KZ (H : hp) (K : Nat → Nat) : Prop := ∀ z, hz H ≤ z → 480 ≤ K z
theorem EX.rf (H : hp) : EX H H := ⟨Nat.le_refl _, fun _ _ => ⟨fun _ => rfl, fun _ => rfl, rfl, rfl, rfl⟩⟩
theorem EX.tr {H H' H'' : hp} (a : EX H H') (b : EX H' H'') : EX H H'' := ⟨Nat.le_trans a.1 b.1, fun z hz' => by
  obtain ⟨x1, x2, x3, x4, x5⟩ := a.2 z hz'
  obtain ⟨y1, y2, y3, y4, y5⟩ := b.2 z (Nat.lt_of_lt_of_le hz' a.1)
  exact ⟨fun f => (y1 f).trans (x1 f), fun f => (y2 f).trans (x2 f), y3.trans x3, y4.trans x4, y5.trans x5⟩⟩
section C11
variable {H H' : hp} {K : Nat → Nat} {V W : Nat → Nat → Int32}
theorem KZ.lt (h : KZ H K) {z : Nat} (hk : K z < 480) : z < hz H := by
  apply Nat.lt_of_not_le
  intro q
  have := h z q
  omega
theorem KZ.ex (h : KZ H K) (e : EX H H') : KZ H' K := fun z hz' => h z (Nat.le_trans e.1 hz')
theorem SS.ex {z s : Nat} (h : SS H K z s) (hK : KZ H K) (e : EX H H') : SS H' K z s := by
  obtain ⟨⟨a1, a2, a3⟩, ⟨a4, a5, a6⟩, ⟨a7, a8, a9⟩⟩ := h
  have r := (e.2 z (hK.lt (by omega))).2.1
  unfold SS
  rw [r, r]
  exact ⟨⟨a1, a2, a3⟩, ⟨a4, a5, ((e.2 _ (hK.lt (by omega))).2.2.2.1).trans a6⟩, ⟨a7, a8, ((e.2 _ (hK.lt (by omega))).2.2.2.1).trans a9⟩⟩
theorem AR.ex {a s m : Nat} (h : AR H K a s m) (hs : s < 480) (hK : KZ H K) (e : EX H H') : AR H' K a s m := by
  obtain ⟨a1, a2, a3⟩ := h
  exact ⟨a1, a2, ((e.2 _ (hK.lt (by omega))).2.2.2.1).trans a3⟩
theorem PQ.ex {p q : Nat} (h : PQ H K p q) (hK : KZ H K) (e : EX H H') : PQ H' K p q := by
  obtain ⟨⟨a1, a2, a3⟩, b, c, d, f, g⟩ := h
  have r := (e.2 p (hK.lt (by omega))).2.1
  unfold PQ
  rw [r, r, r, r, r]
  exact ⟨⟨a1, a2, a3⟩, b.ex (by omega) hK e, c.ex (by omega) hK e, d.ex (by omega) hK e, f.ex (by omega) hK e, g.ex (by omega) hK e⟩
theorem RW1.ex {q r : Nat} (h : RW1 H K q r) (hK : KZ H K) (e : EX H H') : RW1 H' K q r := by
  obtain ⟨a1, a2, a3, a4⟩ := h
  have r := (e.2 q (hK.lt (by omega))).2.1
  unfold RW1
  rw [r]
  exact ⟨a1, a2, a3.ex (by omega) hK e, a4⟩
theorem RDR.ex {z : Nat} (h : RDR H K z) (hK : KZ H K) (e : EX H H') : RDR H' K z := by
  obtain ⟨⟨a1, a2⟩, a3, a4⟩ := h
  have r := (e.2 z (hK.lt (by omega))).2.1
  unfold RDR
  rw [r, r]
  exact ⟨⟨a1, a2⟩, a3.ex (by omega) hK e, a4.ex hK e⟩
theorem CS.ex {y : Nat} (h : CS H K y) (hK : KZ H K) (e : EX H H') : CS H' K y := by
  obtain ⟨⟨k1, k2⟩, p1, n1, t1, ⟨a1, a2⟩, ⟨i1, i2⟩, ⟨s1, s2⟩, f1, ⟨⟨q1, q2⟩, q3, q4, q5, q6⟩, ⟨⟨u1, u2⟩, u3⟩, ⟨r1, r2⟩⟩ := h
  have ry := (e.2 y (hK.lt (by omega))).2.1
  have rs := (e.2 (hfR H 612 y) (hK.lt (by omega))).2.1
  have ra := (e.2 (hfR H 613 y) (hK.lt (by omega))).2.1
  have r0' := (e.2 (hfR H 600 y) (hK.lt (by have := r1.2.1; omega))).2.2.2.2
  have r1' := (e.2 (hfR H 606 y) (hK.lt (by have := a1.2.1; omega))).2.2.2.2
  have r2' := (e.2 (hfR H 610 y) (hK.lt (by have := s1.2.1; omega))).2.2.2.2
  have r3' := (e.2 (hfR H 609 y) (hK.lt (by have := i1.2.1; omega))).2.2.2.2
  unfold CS
  rw [ry, ry, ry, ry, ry, ry, ry, ry, ry, ry, rs, rs, rs, rs, ra, r0', r1', r2', r3']
  exact ⟨⟨k1, k2⟩, p1.ex hK e, n1.ex hK e, t1.ex hK e, ⟨a1.ex (by omega) hK e, fun i hi => (a2 i hi).ex hK e⟩, ⟨i1.ex (by omega) hK e, fun i hi => (i2 i hi).ex hK e⟩, ⟨s1.ex (by omega) hK e, fun i hi => (s2 i hi).ex hK e⟩, f1.ex hK e, ⟨⟨q1, q2⟩, q3.ex hK e, q4.ex (by omega) hK e, q5.ex (by omega) hK e, q6.ex (by omega) hK e⟩, ⟨⟨u1, u2⟩, u3.ex (by omega) hK e⟩, ⟨r1.ex (by omega) hK e, fun i hi => (r2 i hi).ex hK e⟩⟩
theorem CU_warr {x m : Nat} (hx : 400 ≤ K x) : warr (CU H K V W) x m = CU (warr H x m) K V W := by
  unfold warr CU
  refine Prod.ext rfl (Prod.ext rfl (Prod.ext ?_ rfl))
  funext z
  show va_up (fun z => if K z < 400 then W (K z) else H.2.2.1 z) x (fun _ => 0) z = (if K z < 400 then W (K z) else va_up H.2.2.1 x (fun _ => 0) z)
  by_cases c : z = x
  · subst c
    rw [va_up_self, if_neg (by omega), va_up_self]
  · rw [va_up_ne _ _ c, va_up_ne _ _ c]
theorem CU_waIo {x : Nat} {g : Nat → Int32} (hx : 400 ≤ K x) : waI (CU H K V W) x g = CU (waI H x g) K V W := by
  unfold waI CU
  refine Prod.ext rfl (Prod.ext rfl (Prod.ext ?_ rfl))
  funext z
  show va_up (fun z => if K z < 400 then W (K z) else H.2.2.1 z) x g z = (if K z < 400 then W (K z) else va_up H.2.2.1 x g z)
  by_cases c : z = x
  · subst c
    rw [va_up_self, if_neg (by omega), va_up_self]
  · rw [va_up_ne _ _ c, va_up_ne _ _ c]
theorem EX.warr {x m : Nat} (hx : hz H ≤ x) : EX H (warr H x m) := by
  refine ⟨Nat.le_succ_of_le hx, fun z hz' => ⟨fun _ => rfl, fun _ => rfl, va_up_ne _ _ (by omega), va_up_ne _ _ (by omega), va_up_ne _ _ (by omega)⟩⟩
theorem EX.waI {x : Nat} {g : Nat → Int32} (e : EX H H') (hx : hz H ≤ x) : EX H (waI H' x g) :=
  ⟨e.1, fun z hz' => ⟨(e.2 z hz').1, (e.2 z hz').2.1, (va_up_ne _ _ (by omega)).trans (e.2 z hz').2.2.1, (e.2 z hz').2.2.2.1, (e.2 z hz').2.2.2.2⟩⟩
end C11
/-- the layers, as the class finds them -/
def lyI (onx : Int32) (L : Nat → Int32) : Nat → Int32
  | 0 => 0
  | u + 1 => if hasB onx (nI u) then maxI (lyI onx L u) (L u + 1) else lyI onx L u
def lyF (on : Nat → Int32) : Nat → Nat → Int32
  | 0 => fun _ => 0
  | k + 1 => upd (lyF on k) k (lyI (on k) (lyF on k) k)
theorem lyF_hi (on : Nat → Int32) : ∀ k j, k ≤ j → lyF on k j = 0
  | 0, _, _ => rfl
  | k + 1, j, h => by
    show (if j = k then _ else lyF on k j) = 0
    rw [if_neg (by omega)]
    exact lyF_hi on k j (by omega)
theorem lyI_cg {o o' : Int32} {L L' : Nat → Int32} (ho : o = o') : ∀ u, (∀ j, j < u → L j = L' j) → lyI o L u = lyI o' L' u
  | 0, _ => rfl
  | u + 1, h => by
    show (if hasB o (nI u) then maxI (lyI o L u) (L u + 1) else lyI o L u) = (if hasB o' (nI u) then maxI (lyI o' L' u) (L' u + 1) else lyI o' L' u)
    rw [lyI_cg ho u (fun j hj => h j (by omega)), h u (by omega), ho]
theorem lyF_cg {on on' : Nat → Int32} : ∀ k, (∀ j, j < k → on j = on' j) → lyF on k = lyF on' k
  | 0, _ => rfl
  | k + 1, h => by
    show upd (lyF on k) k (lyI (on k) (lyF on k) k) = upd (lyF on' k) k (lyI (on' k) (lyF on' k) k)
    rw [lyF_cg k (fun j hj => h j (by omega)), h k (by omega)]
/-- a layer is settled with its BLOCK -/
theorem lyF_at (on : Nat → Int32) {b : Nat} : ∀ k, b < k → lyF on k b = lyF on (b + 1) b
  | 0, h => absurd h (Nat.not_lt_zero b)
  | k + 1, h => by
    by_cases c : b = k
    · rw [c]
    · show (if b = k then _ else lyF on k b) = _
      rw [if_neg c]
      exact lyF_at on k (by omega)
section C12
variable {d y n cm p : Nat} {H : hp} {K : Nat → Nat} {V W : Nat → Nat → Int32} {kk : Rt}
theorem c_layer {bl : Int32} (hS : CS H K (y + 1)) (hn : Pn H (hfR H 604 (y + 1)) n cm) (hb : ¬ inB bl n → kk (some (.inl eBAD)) (CU H K V W)) (hg : ∀ b, b < n → bl = nI b → kk (some (.inl (pA H (hfR H 604 (y + 1)) 107 b))) (CU H K V W)) : CL (d + 2) mX6_layer 0 0 [.inr (.inr (7, y + 1)), .inl bl] (CU H K V W) kk := by
  have n8 := hn.1.2
  obtain ⟨-, -, -, ⟨b4, b5, b6⟩, -⟩ := hS.pl0
  have b7 : 400 ≤ K (hfR H 107 (hfR H 604 (y + 1))) := by omega
  refine mw T_X6_layer (fun Wm go => go cut0 60 0 _ _ _ _ _ ?_)
  refine nz hS.pl.1.1 ?_
  refine c_hasBlock (CU_e _ _ _ _ _ _) hS.pl hn (fun q1 => br1 ?_) (fun q1 => br0 (hb q1))
  obtain ⟨b, hbn, rfl⟩ := inB_of q1 (by omega)
  refine nz hS.pl.1.1 ?_
  exact cldo b4 b7 b6 (by omega) b rfl (by omega) (hg b hbn rfl)
end C12
