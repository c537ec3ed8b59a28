/-! ===== the class: writes ===== -/
section C25
variable {H H' : hp} {K : Nat → Nat} {V W : Nat → Nat → Int32} {x f m : Nat}
theorem EXwobj (e : EX H H') (hx : hz H' ≤ x) : EX H (wobj H' x) :=
  ⟨Nat.le_trans e.1 (Nat.le_succ_of_le hx), fun z hz' => by
    have h1 := e.1
    have h2 : z ≠ x := by omega
    obtain ⟨e1, e2, e3, e4, e5⟩ := e.2 z hz'
    exact ⟨fun f => (if_neg h2).trans (e1 f), fun f => (if_neg h2).trans (e2 f), e3, e4, e5⟩⟩
theorem EXwarr (e : EX H H') (hx : hz H' ≤ x) : EX H (warr H' x m) :=
  ⟨Nat.le_trans e.1 (Nat.le_succ_of_le hx), fun z hz' => by
    have h1 := e.1
    have h2 : z ≠ x := by omega
    obtain ⟨e1, e2, e3, e4, e5⟩ := e.2 z hz'
    exact ⟨e1, e2, (va_up_ne _ _ h2).trans e3, (va_up_ne _ _ h2).trans e4, (va_up_ne _ _ h2).trans e5⟩⟩
theorem up2_nx {α : Type} {g : Nat → Nat → α} {f x f' x' : Nat} {v : α} (h : x' ≠ x) : up2 g f x v f' x' = g f' x' := by
  unfold up2
  by_cases c : f' = f
  · rw [if_pos c, if_neg h]
  · rw [if_neg c]
theorem up2_nf {α : Type} {g : Nat → Nat → α} {f x f' x' : Nat} {v : α} (h : f' ≠ f) : up2 g f x v f' x' = g f' x' := if_neg h
theorem up2_eq {α : Type} {g : Nat → Nat → α} {f x : Nat} {v : α} : up2 g f x v f x = v := by
  unfold up2
  rw [if_pos rfl, if_pos rfl]
theorem wfI_eq {v : Int32} : hfI (wfI H f x v) f x = v := up2_eq
theorem EXwfI {v : Int32} (e : EX H H') (hx : hz H ≤ x) : EX H (wfI H' f x v) :=
  ⟨e.1, fun z hz' => by
    have h2 : z ≠ x := by omega
    obtain ⟨e1, e2, e3, e4, e5⟩ := e.2 z hz'
    exact ⟨fun f => (up2_nx h2).trans (e1 f), e2, e3, e4, e5⟩⟩
theorem EXwfR {v : Nat} (e : EX H H') (hx : hz H ≤ x) : EX H (wfR H' f x v) :=
  ⟨e.1, fun z hz' => by
    have h2 : z ≠ x := by omega
    obtain ⟨e1, e2, e3, e4, e5⟩ := e.2 z hz'
    exact ⟨e1, fun f => (up2_nx h2).trans (e2 f), e3, e4, e5⟩⟩
theorem EXwaR {g : Nat → Nat} (e : EX H H') (hx : hz H ≤ x) : EX H (waR H' x g) :=
  ⟨e.1, fun z hz' => by
    have h2 : z ≠ x := by omega
    obtain ⟨e1, e2, e3, e4, e5⟩ := e.2 z hz'
    exact ⟨e1, e2, e3, e4, (va_up_ne _ _ h2).trans e5⟩⟩
theorem CU_wobj (hx : 400 ≤ K x) : wobj (CU H K V W) x = CU (wobj H x) K V W := by
  unfold wobj CU
  refine Prod.ext ?_ rfl
  funext f z
  show (if z = x then 0 else if K z < 400 then V f (K z) else H.1 f z) = (if K z < 400 then V f (K z) else if z = x then 0 else H.1 f z)
  by_cases c : z = x
  · subst c
    rw [if_pos rfl, if_neg (by omega), if_pos rfl]
  · rw [if_neg c, if_neg c]
theorem CU_wIo {v : Int32} (hx : 400 ≤ K x) : wfI (CU H K V W) f x v = CU (wfI H f x v) K V W := by
  unfold wfI CU
  refine Prod.ext ?_ rfl
  funext f' z
  show up2 (fun f z => if K z < 400 then V f (K z) else H.1 f z) f x v f' z = (if K z < 400 then V f' (K z) else up2 H.1 f x v f' z)
  by_cases c : z = x
  · subst c
    rw [if_neg (by omega)]
    unfold up2
    by_cases c2 : f' = f
    · rw [if_pos c2, if_pos c2, if_pos rfl, if_pos rfl]
    · rw [if_neg c2, if_neg c2]
      dsimp only
      rw [if_neg (by omega)]
  · rw [up2_nx c, up2_nx c]
end C25
