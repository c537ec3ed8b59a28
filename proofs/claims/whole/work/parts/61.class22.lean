/-! ===== the class: what is made anew, row ===== -/
section C25
variable {H H' : hp} {K : Nat → Nat} {V W : Nat → Nat → Int32} {x f m : Nat}
theorem EXwobj (e : EX H H') (hx : hz H' ≤ x) : EX H (wobj H' x) :=
  ⟨Nat.le_trans e.1 (Nat.le_succ_of_le hx), fun z hz' => by
    have h1 := e.1
    have h2 : z ≠ x := by omega
    obtain ⟨e1, e2, e3, e4, e5⟩ := e.2 z hz'
    exact ⟨fun f => (if_neg h2).trans (e1 f), fun f => (if_neg h2).trans (e2 f), e3, e4, e5⟩⟩
theorem EXwarr (e : EX H H') (hx : hz H' ≤ x) : EX H (warr H' x m) :=
  ⟨Nat.le_trans e.1 (Nat.le_succ_of_le hx), fun z hz' => by
    have h1 := e.1
    have h2 : z ≠ x := by omega
    obtain ⟨e1, e2, e3, e4, e5⟩ := e.2 z hz'
    exact ⟨e1, e2, (va_up_ne _ _ h2).trans e3, (va_up_ne _ _ h2).trans e4, (va_up_ne _ _ h2).trans e5⟩⟩
theorem up2_nx {α : Type} {g : Nat → Nat → α} {f x f' x' : Nat} {v : α} (h : x' ≠ x) : up2 g f x v f' x' = g f' x' := by
  unfold up2
  by_cases c : f' = f
  · rw [if_pos c, if_neg h]
  · rw [if_neg c]
theorem up2_nf {α : Type} {g : Nat → Nat → α} {f x f' x' : Nat} {v : α} (h : f' ≠ f) : up2 g f x v f' x' = g f' x' := if_neg h
theorem up2_eq {α : Type} {g : Nat → Nat → α} {f x : Nat} {v : α} : up2 g f x v f x = v := by
  unfold up2
  rw [if_pos rfl, if_pos rfl]
theorem wfI_eq {v : Int32} : hfI (wfI H f x v) f x = v := up2_eq
theorem EXwfI {v : Int32} (e : EX H H') (hx : hz H ≤ x) : EX H (wfI H' f x v) :=
  ⟨e.1, fun z hz' => by
    have h2 : z ≠ x := by omega
    obtain ⟨e1, e2, e3, e4, e5⟩ := e.2 z hz'
    exact ⟨fun f => (up2_nx h2).trans (e1 f), e2, e3, e4, e5⟩⟩
theorem EXwfR {v : Nat} (e : EX H H') (hx : hz H ≤ x) : EX H (wfR H' f x v) :=
  ⟨e.1, fun z hz' => by
    have h2 : z ≠ x := by omega
    obtain ⟨e1, e2, e3, e4, e5⟩ := e.2 z hz'
    exact ⟨e1, fun f => (up2_nx h2).trans (e2 f), e3, e4, e5⟩⟩
theorem EXwaR {g : Nat → Nat} (e : EX H H') (hx : hz H ≤ x) : EX H (waR H' x g) :=
  ⟨e.1, fun z hz' => by
    have h2 : z ≠ x := by omega
    obtain ⟨e1, e2, e3, e4, e5⟩ := e.2 z hz'
    exact ⟨e1, e2, e3, e4, (va_up_ne _ _ h2).trans e5⟩⟩
theorem CU_wobj (hx : 400 ≤ K x) : wobj (CU H K V W) x = CU (wobj H x) K V W := by
  unfold wobj CU
  refine Prod.ext ?_ rfl
  funext f z
  show (if z = x then 0 else if K z < 400 then V f (K z) else H.1 f z) = (if K z < 400 then V f (K z) else if z = x then 0 else H.1 f z)
  by_cases c : z = x
  · subst c
    rw [if_pos rfl, if_neg (by omega), if_pos rfl]
  · rw [if_neg c, if_neg c]
theorem CU_wIo {v : Int32} (hx : 400 ≤ K x) : wfI (CU H K V W) f x v = CU (wfI H f x v) K V W := by
  unfold wfI CU
  refine Prod.ext ?_ rfl
  funext f' z
  show up2 (fun f z => if K z < 400 then V f (K z) else H.1 f z) f x v f' z = (if K z < 400 then V f' (K z) else up2 H.1 f x v f' z)
  by_cases c : z = x
  · subst c
    rw [if_neg (by omega)]
    unfold up2
    by_cases c2 : f' = f
    · rw [if_pos c2, if_pos c2, if_pos rfl, if_pos rfl]
    · rw [if_neg c2, if_neg c2]
      dsimp only
      rw [if_neg (by omega)]
  · rw [up2_nx c, up2_nx c]
end C25
section C26
variable {d y n cm x : Nat} {H : hp} {K : Nat → Nat} {V W : Nat → Nat → Int32} {kk : Rt}
theorem c_rowInit {s : Nat} {h : hp} {la : Int32} (hs : s ≤ 40) (hk : ∀ a, hz h ≤ a → kk none (wfR (warr (wfI h 300 (x + 1) la) a s) 301 (x + 1) a)) : CL (d + 1) mX3_init 1 40 [.inr (.inr (4, x + 1)), .inl la, .inl (nI s)] h kk := by
  have e : (if (0 : Int32) < nI s then nI s else 0) = nI s := by
    by_cases c : (0 : Int32) < nI s
    · rw [if_pos c]
    · rw [if_neg c]
      have h1 : s ≤ 0 := (nI_leI (a := s) (b := 0) (by omega) (by omega)).mp (Int32.not_lt.mp c)
      have h2 : s = 0 := by omega
      rw [h2]; rfl
  refine mw T_X3_init (fun Wm go => go (cut1 15) 60 0 _ _ _ _ _ ?_)
  show Wm 15 [some (.inr (.inr (4, x + 1))), some (.inl la), some (.inl (nI s))] [.inl (if (0 : Int32) < nI s then nI s else 0), .inr (.inr (4, x + 1))] (wfI h 300 (x + 1) la) 0 0
  rw [e]
  refine go cut0 60 15 _ _ _ _ _ ?_
  refine And.intro ⟨Int32.not_lt.mpr ((nI_leI (a := 0) (by omega) (by omega)).mpr (Nat.zero_le s)), (nI_leI (b := 1000) (by omega) (by omega)).mpr (by omega)⟩ (And.intro ⟨by decide, ?_⟩ (fun a ha => ?_))
  · rw [nI_clamp (by omega)]; omega
  · rw [nI_clamp (by omega)]
    exact hk a ha
/-- a new row: at x, its items at a -/
def NR (H H2 : hp) (x a : Nat) (la : Int32) (s : Nat) : Prop := EX H H2 ∧ hz H ≤ x ∧ x < a ∧ a < hz H2 ∧ hfR H2 301 x = a ∧ hfI H2 300 x = la ∧ haL H2 a = s ∧ haI H2 a = (fun _ => 0)
set_option maxRecDepth 20000 in
theorem c_row {rw' la nn : Int32} (hS : CS H K (y + 1)) (hK : KZ H K) (hZ : PZ H (hfR H 605 (y + 1))) (hz1 : 0 < hz H) (hb : ¬ (inB rw' 8 ∧ inB la 3 ∧ ¬ 40 < nn) → kk (some (.inl eBAD)) (CU H K V W))
    (hf : inB rw' 8 → inB la 3 → nn < 0 → kk (some (.inl (-1000010 - 4))) (CU H K (up2 V 604 1 4) W))
    (hg : ∀ r s x a H2, r < 8 → rw' = nI r → inB la 3 → s ≤ 40 → nn = nI s → NR H H2 x a la s → kk (some (.inl (nI s))) (CU (waR H2 (hfR H 600 (y + 1)) (va_up (haR H (hfR H 600 (y + 1))) r x)) K (up2 V 604 1 0) W)) : CL (d + 3) mX6_row 2 42 [.inr (.inr (7, y + 1)), .inl rw', .inl la, .inl nn] (CU H K V W) kk := by
  obtain ⟨r1, r2, r3⟩ := hS.rows
  refine mw T_X6_row (fun Wm go => go (cut1 50) 80 0 _ _ _ _ _ ?_)
  refine c_isBelow (m := 8) rfl (by omega) (fun q1 => br1 ?_) (fun q1 => br0 (hb (fun z => q1 z.1)))
  refine c_isBelow (m := 3) rfl (by omega) (fun q2 => br1 ?_) (fun q2 => br0 (hb (fun z => q2 z.2.1)))
  refine And.intro (fun q3 => ?_) (fun q3 => hb (fun z => z.2.2 (Int32.not_le.mp q3)))
  refine And.intro (fun q4 => ?_) (fun q4 => c_found hS (hf q1 q2 (Int32.not_le.mp q4)))
  obtain ⟨r, hr, rfl⟩ := inB_of q1 (by omega)
  obtain ⟨s, -, hs40, rfl⟩ := inR_n (a := 0) (b := 40) (by omega) ⟨q4, q3⟩ (by omega)
  refine And.intro ⟨by decide, by decide⟩ (fun x hx => ?_)
  have hx : hz H ≤ x := hx
  obtain ⟨x, rfl⟩ : ∃ q, x = q + 1 := ⟨x - 1, by omega⟩
  refine And.intro ⟨by decide, by decide⟩ ?_
  refine c_rowInit hs40 (fun a ha => ?_)
  have ha : x + 1 + 1 ≤ a := ha
  have kx := hK _ hx
  have ka := hK a (by omega)
  have hN : NR H (wfR (warr (wfI (wobj H (x + 1)) 300 (x + 1) la) a s) 301 (x + 1) a) (x + 1) a la s := by
    refine ⟨EXwfR (EXwarr (EXwfI (EXwobj (EX.rf H) hx) hx) ha) hx, hx, by omega, Nat.lt_succ_self a, wfR_eq, ?_, ?_, ?_⟩
    · show hfI (wfI (wobj H (x + 1)) 300 (x + 1) la) 300 (x + 1) = la
      exact wfI_eq
    · exact va_up_self _ _ _
    · exact va_up_self _ _ _
  refine wmc (Wm := Wm) (h' := CU (wfR (warr (wfI (wobj H (x + 1)) 300 (x + 1) la) a s) 301 (x + 1) a) K V W) ?_ rfl ?_
  rotate_left
  · rw [CU_wobj kx, CU_wIo kx, CU_warr ka]; rfl
  have hg := hg r s (x + 1) a _ hr rfl q2 hs40 rfl hN
  generalize wfR (warr (wfI (wobj H (x + 1)) 300 (x + 1) la) a s) 301 (x + 1) a = H2 at *
  obtain ⟨hE, n1, n2, n3, n4, n5, n6, n7⟩ := hN
  have hrz : hfR H 600 (y + 1) < hz H := hK.lt (by omega)
  refine go (cut1 51) 60 50 _ _ _ _ _ ?_
  refine nz r1 (And.intro ?_ ?_)
  · show vp_in (nI r) (haL H2 (hfR H 600 (y + 1)))
    rw [(hE.2 _ hrz).2.2.2.1, r3]; exact vp_in_nI hr (by omega)
  refine wmc (Wm := Wm) (h' := CU (waR H2 (hfR H 600 (y + 1)) (va_up (haR H (hfR H 600 (y + 1))) r (x + 1))) K V W) ?_ rfl ?_
  · have hS2 := (hS.ex hK hZ hE).wra (g := va_up (haR H (hfR H 600 (y + 1))) r (x + 1)) (a := hfR H 600 (y + 1)) (by omega) (by omega)
    refine go cut0 40 51 _ _ _ _ _ ?_
    exact c_foundNone hS2 hg
  · rw [nI_clamp (by omega)]
    show waR (CU H2 K V W) (hfR H 600 (y + 1)) (va_up (haR H2 (hfR H 600 (y + 1))) r (x + 1)) = _
    rw [(hE.2 _ hrz).2.2.2.2]
    rfl
end C26
