/-! ===== the class: rows ===== -/
abbrev rho (H : hp) (y r : Nat) : Nat := haR H (hfR H 600 y) r
/-- the row q is there with s items -/
def RW1 (H : hp) (K : Nat → Nat) (q r s : Nat) : Prop := q ≠ 0 ∧ K q = 310 + r ∧ AR H K (hfR H 301 q) (300 + r) s ∧ s ≤ 40 ∧ r < 8
def RW (H : hp) (K : Nat → Nat) (y : Nat) (rs : Nat → Option Nat) : Prop := ∀ r, r < 8 → (rs r = none ∧ rho H y r = 0) ∨ ∃ s, rs r = some s ∧ RW1 H K (rho H y r) r s
section C19
variable {d y n cm r s q : Nat} {H : hp} {K : Nat → Nat} {V W : Nat → Nat → Int32} {kk : Rt} {rs : Nat → Option Nat}
theorem c_hasPlaces {q' : Nat} {i k : Int32} (eq : q' = q) (hR : RW1 H K q r s) (ht : isPt s i k → kk (some (.inl 1)) (CU H K V W)) (hf : ¬ isPt s i k → kk (some (.inl 0)) (CU H K V W)) : CL d mX3_hasPlaces 0 0 [.inr (.inr (4, q')), .inl i, .inl k] (CU H K V W) kk := by
  subst eq
  obtain ⟨q, rfl⟩ : ∃ w, q' = w + 1 := ⟨q' - 1, by have := hR.1; omega⟩
  obtain ⟨-, -, ⟨u1, u2, u3⟩, s40, -⟩ := hR
  refine mw T_X3_hasPlaces (fun Wm go => go cut0 80 0 _ _ _ _ _ ?_)
  refine And.intro (fun c1 => And.intro (Or.inl rfl) (hf (fun z => z0.mpr z.1 c1))) (fun c1 => And.intro (fun c2 => And.intro (Or.inl rfl) (hf (fun z => z0.mpr z.2.1 c2))) (fun c2 => ?_))
  have y1 := z0.mp c1
  have y2 := z0.mp c2
  obtain ⟨k', hk', rfl⟩ := nI_of (x := k) c2
  refine nz u1 ?_
  have el : haL (CU H K V W) (hfR (CU H K V W) 301 (q + 1)) = s := u3
  have e2 : (nI (haL (CU H K V W) (hfR (CU H K V W) 301 (q + 1))) - nI k').toInt = (s : Int) - k' := by
    rw [el]
    by_cases hb : k' < 2 ^ 30
    · exact pk_sub_toInt (by omega) hb
    · have e3 : (nI s).toInt = s := nI_toInt (by omega)
      have e4 : (nI k').toInt = k' := nI_toInt hk'
      rw [Int32.toInt_sub, e3, e4]
      apply Int.bmod_eq_of_le <;> omega
  refine And.intro (fun c3 => And.intro (Or.inl rfl) (hf (fun z => ?_))) (fun c3 => And.intro (Or.inr rfl) (ht ⟨y1, y2, ?_⟩))
  · have c3 : nI (haL (CU H K V W) (hfR (CU H K V W) 301 (q + 1))) - nI k' < i := c3
    rw [Int32.lt_iff_toInt_lt, e2] at c3
    have := z.2.2
    rw [nI_toInt hk'] at this
    omega
  · have c3 : ¬ nI (haL (CU H K V W) (hfR (CU H K V W) 301 (q + 1))) - nI k' < i := c3
    rw [Int32.lt_iff_toInt_lt, e2] at c3
    rw [nI_toInt hk']
    omega
theorem c_lowestBits {q' : Nat} {v : Int32} (eq : q' = q) (hR : RW1 H K q r s) (hk : kk (some (.inl (cutI (V 300 (310 + r)) v))) (CU H K V W)) : CL d mX3_lowestBits 0 0 [.inr (.inr (4, q')), .inl v] (CU H K V W) kk := by
  subst eq
  obtain ⟨q, rfl⟩ : ∃ w, q' = w + 1 := ⟨q' - 1, by have := hR.1; omega⟩
  have r8 := hR.2.2.2.2
  have e : hfI (CU H K V W) 300 (q + 1) = V 300 (310 + r) := CU_fI hR.2.1 (by omega)
  refine mw T_X3_lowestBits (fun Wm go => go cut0 80 0 _ _ _ _ _ ?_)
  refine And.intro (fun c1 => ?_) (fun c1 => And.intro (fun c2 => ?_) (fun c2 => ?_))
  · rw [e] at c1
    exact kki hk (by unfold cutI; rw [if_pos c1]) rfl
  · rw [e] at c1 c2
    exact kki hk (by unfold cutI; rw [if_neg c1, if_pos c2]) rfl
  · rw [e] at c1 c2
    exact kki hk (by unfold cutI; rw [if_neg c1, if_neg c2]) rfl
end C19
