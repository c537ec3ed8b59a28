/-! ===== the class: who ===== -/
section C22
variable {d y n cm r s q : Nat} {H : hp} {K : Nat → Nat} {V W : Nat → Nat → Int32} {kk : Rt} {rs : Nat → Option Nat}
theorem alB_f {f : Nat → Bool} {n k : Nat} (hk : k < n) (h : f k = false) : alB f n = false := by
  cases e : alB f n with
  | false => rfl
  | true => 
    have := alB_t.mp e k hk
    rw [h] at this
    cases this
theorem c_fitsKind {a' a i m : Nat} {kind hand : Int32} (ea : a' = a) (hS : CS H K (y + 1)) (hA : AR H K a (300 + r) s) (hr : r < 8) (hs : s ≤ 40) (hi : i + 2 * m ≤ s) (F : Nat → Bool) (hF : F = fun w => decide (tkB kind hand (W (300 + r) (i + 2 * w)) (V 503 10) = W (300 + r) (i + 2 * w + 1))) (ht : alB F m = true → kk (some (.inl 1)) (CU H K V W)) (hf : alB F m = false → kk (some (.inl 0)) (CU H K V W)) : CL (d + 2) mX6_fitsKind 0 0 [.inr (.inr (7, y + 1)), .inl kind, .inl hand, .inr (.inr (20, a')), .inl (nI i), .inl (nI m)] (CU H K V W) kk := by
  subst ea
  obtain ⟨u1, u2, u3⟩ := hA
  obtain ⟨⟨a1, a2, a3⟩, -⟩ := hS.now
  have ed : hfI (CU H K V W) 503 (hfR (CU H K V W) 606 (y + 1)) = V 503 10 := CU_fI a2 (by decide)
  refine mw T_X6_fitsKind (fun Wm go => go (cut1 3) 60 0 _ _ _ _ _ ?_)
  refine upto (n := m) (P := fun w => (∀ j, j < w → F j = true) → Wm 3 [some (.inr (.inr (7, y + 1))), some (.inl kind), some (.inl hand), some (.inr (.inr (20, a'))), some (.inl (nI i)), some (.inl (nI m)), some (.inl (nI w))] [] (CU H K V W) 0 0) (fun w hw ih hj => ?_) 0 (Nat.zero_le _) (fun j hj => absurd hj (Nat.not_lt_zero j))
  refine go (cut1 3) 60 3 _ _ _ _ _ ?_
  refine icg rfl rfl (by omega) (by omega) (fun c => ?_) (fun c => ?_)
  · have e : w = m := by omega
    subst e
    exact And.intro (Or.inr rfl) (ht (alB_t.mpr hj))
  · refine cld u1 u2 (by omega) u3 (by omega) (i + 2 * w) (ix2 i w) (by omega) ?_
    refine nz a1 ?_
    refine c_chalkByKind ?_
    refine cld u1 u2 (by omega) u3 (by omega) (i + 2 * w + 1) (by show nI i + 2 * nI w + 1 = _; rw [ix2]; exact nI_1 _) (by omega) ?_
    rw [ed]
    refine And.intro (fun z => ?_) (fun z => ?_)
    · have e := ih c (fun j hj' => by
        by_cases q : j = w
        · rw [q, hF]; exact decide_eq_true z
        · exact hj j (by omega))
      rw [← nI_1] at e
      exact e
    · exact And.intro (Or.inl rfl) (hf (alB_f c (by rw [hF]; exact decide_eq_false z)))
end C22
