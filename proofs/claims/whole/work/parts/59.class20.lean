/-! ===== the class: from ===== -/
def olS (c it : Nat → Int32) : Nat → Option (Option Nat)
  | 0 => some none
  | k + 1 => match olS c it k with
    | none => none
    | some o => if it k = c k then some o else if o.isSome = true ∨ it k < 0 ∨ ¬ it k ≤ c k then none else some (some k)
theorem olS_n {c it : Nat → Int32} {w : Nat} (h : olS c it w = none) : ∀ k, olS c it (w + k) = none
  | 0 => h
  | k + 1 => by
    show (match olS c it (w + k) with | none => none | some o => _) = none
    rw [olS_n h k]
def olV : Option (Option Nat) → Int32
  | some (some b) => nI b
  | _ => -1
theorem olS_lt {c it : Nat → Int32} : ∀ {k b : Nat}, olS c it k = some (some b) → b < k
  | 0, b, h => by cases h
  | k + 1, b, h => by
    have h : (match olS c it k with | none => none | some o => if it k = c k then some o else if o.isSome = true ∨ it k < 0 ∨ ¬ it k ≤ c k then none else some (some k)) = some (some b) := h
    cases e : olS c it k with
    | none => rw [e] at h; cases h
    | some o =>
      rw [e] at h
      dsimp only at h
      split at h
      · cases h
        have := olS_lt e
        omega
      · split at h
        · cases h
        · cases h
          omega
section C23
variable {d y n cm r s q : Nat} {H : hp} {K : Nat → Nat} {V W : Nat → Nat → Int32} {kk : Rt} {rs : Nat → Option Nat}
theorem c_onlyLessened {a' a i : Nat} (ea : a' = a) (hS : CS H K (y + 1)) (hn : Pn H (hfR H 604 (y + 1)) n cm) (hA : AR H K a (300 + r) s) (hr : r < 8) (hs : s ≤ 40) (hi : i + n ≤ s) (hk : kk (some (.inl (olV (olS (W 100) (fun j => W (300 + r) (i + j)) n)))) (CU H K V W)) : CL (d + 2) mX6_onlyLessened 0 0 [.inr (.inr (7, y + 1)), .inr (.inr (20, a')), .inl (nI i)] (CU H K V W) kk := by
  subst ea
  have n8 := hn.1.2
  obtain ⟨u1, u2, u3⟩ := hA
  obtain ⟨⟨a1, a2, a3⟩, ⟨a4, a5, a6⟩, -⟩ := hS.now
  obtain ⟨it, hit⟩ : ∃ it : Nat → Int32, it = fun j => W (300 + r) (i + j) := ⟨_, rfl⟩
  rw [← hit] at hk
  refine mw3 T_X6_onlyLessened (fun Wm go wk => go (cut1 5) 60 0 _ _ _ _ _ ?_)
  have L := upto (n := n) (P := fun k => ∀ o, olS (W 100) it k = some o → Wm 5 [some (.inr (.inr (7, y + 1))), some (.inr (.inr (20, a'))), some (.inl (nI i)), some (.inl (olV (some o))), some (.inl (nI k)), none] [] (CU H K V W) 0 0) (fun k hkn ih o ho => ?_) 0 (Nat.zero_le _) none rfl
  · exact L
  refine go (cut3 5 67 72) 60 5 _ _ _ _ _ ?_
  refine nz hS.pl.1.1 ?_
  refine icg rfl ((CU_fIo hS.pl.1.2).trans hn.1.1) (by omega) (by omega) (fun c => ?_) (fun c => ?_)
  · have e : k = n := by omega
    subst e
    rw [ho] at hk
    exact hk
  · have ih := ih c
    have hstep : olS (W 100) it (k + 1) = if it k = W 100 k then some o else if o.isSome = true ∨ it k < 0 ∨ ¬ it k ≤ W 100 k then none else some (some k) := by
      show (match olS (W 100) it k with | none => none | some o => _) = _
      rw [ho]
    have bad : (¬ it k = W 100 k) → (o.isSome = true ∨ it k < 0 ∨ ¬ it k ≤ W 100 k) → Wm 67 [none, none, none, none, none, none] [] (CU H K V W) 0 0 := by
      intro h1 h2
      rw [if_neg h1, if_pos h2] at hstep
      have e := olS_n hstep (n - (k + 1))
      rw [show k + 1 + (n - (k + 1)) = n by omega] at e
      rw [e] at hk
      exact go cut0 20 67 _ _ _ _ _ hk
    have eit : W (300 + r) (i + k) = it k := by rw [hit]
    refine cld u1 u2 (by omega) u3 (by omega) (i + k) (nI_add _ _) (by omega) ?_
    refine nz a1 ?_
    refine cld a4 a5 (by decide) a6 (by omega) k rfl (by omega) ?_
    rw [eit]
    refine And.intro (fun z => ?_) (fun z => ?_)
    · have z : it k = W 100 k := z
      rw [if_pos z] at hstep
      have e := ih o hstep
      rw [← nI_1] at e
      refine go (cut1 5) 20 72 _ _ _ _ _ ?_
      exact wk _ _ _ _ _ _ _ e (by repeat (first | exact ln | refine l0 ?_ | refine l1 rfl ?_))
    · have z : ¬ it k = W 100 k := z
      cases o with
      | some b => 
        refine And.intro (fun _ => wk _ _ _ _ _ _ _ (bad z (Or.inl rfl)) (by repeat (first | exact ln | refine l0 ?_ | refine l1 rfl ?_))) (fun v => ?_)
        have bk := olS_lt ho
        exact absurd (show (0 : Int32) ≤ nI b from (nI_leI (a := 0) (by omega) (by omega)).mpr (Nat.zero_le b)) v
      | none =>
        refine And.intro (fun v => absurd v (by decide)) (fun _ => ?_)
        refine And.intro (fun v => wk _ _ _ _ _ _ _ (bad z (Or.inr (Or.inl v))) (by repeat (first | exact ln | refine l0 ?_ | refine l1 rfl ?_))) (fun v => ?_)
        refine nz a1 ?_
        refine cld a4 a5 (by decide) a6 (by omega) k rfl (by omega) ?_
        refine And.intro (fun v2 => ?_) (fun v2 => wk _ _ _ _ _ _ _ (bad z (Or.inr (Or.inr v2))) (by repeat (first | exact ln | refine l0 ?_ | refine l1 rfl ?_)))
        rw [if_neg z, if_neg (fun q => q.elim (fun q => by cases q) (fun q => q.elim v (fun q => q v2)))] at hstep
        have e := ih (some k) hstep
        rw [← nI_1] at e
        refine go (cut1 5) 20 72 _ _ _ _ _ ?_
        exact wk _ _ _ _ _ _ _ e (by repeat (first | exact ln | refine l0 ?_ | refine l1 rfl ?_))
end C23
