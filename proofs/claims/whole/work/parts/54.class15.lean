/-! ===== the class: ask, rows' parts ===== -/
section C18
variable {d y n cm : Nat} {H : hp} {K : Nat → Nat} {V W : Nat → Nat → Int32} {kk : Rt}
theorem c_ask {cl wh : Int32} (hS : CS H K (y + 1)) (hn : Pn H (hfR H 604 (y + 1)) n cm) (hT : ST H K) (hkd : ∀ c, c < cm → ∃ k, 1 ≤ k ∧ k ≤ 5 ∧ pA H (hfR H 604 (y + 1)) 108 c = nI k) (hb : ¬ (inB cl cm ∧ inB wh 2) → kk (some (.inl eBAD)) (CU H K V W))
    (hg : ∀ c V', c < cm → cl = nI c → inB wh 2 → V' = abV V (nI c) (pA H (hfR H 604 (y + 1)) 108 c) (pA H (hfR H 604 (y + 1)) 109 c) (W 200 c) → kk (some (.inl (if wh = 0 then szV (pA H (hfR H 604 (y + 1)) 108 c) (pA H (hfR H 604 (y + 1)) 109 c) (nI c) (W 200 c) else mkV (pA H (hfR H 604 (y + 1)) 108 c) (pA H (hfR H 604 (y + 1)) 109 c) (nI c) (W 200 c)))) (TC H K V' W (if wh = 0 then szL (pA H (hfR H 604 (y + 1)) 108 c) else mkL (pA H (hfR H 604 (y + 1)) 108 c)))) : CL (d + 10) mX6_ask 0 0 [.inr (.inr (7, y + 1)), .inl cl, .inl wh] (CU H K V W) kk := by
  have c4 := hn.2.2
  obtain ⟨-, -, -, ⟨b4, b5, b6⟩, ⟨e4, e5, e6⟩⟩ := hS.pl
  obtain ⟨⟨a1, a2, a3⟩, -, ⟨a7, a8, a9⟩⟩ := hS.now
  have hA : AK H K (hfR H 613 (y + 1)) := hS.ask
  refine mw T_X6_ask (fun Wm go => go (cut1 57) 80 0 _ _ _ _ _ ?_)
  refine nz hS.pl.1.1 ?_
  refine c_hasClerk (CU_e _ _ _ _ _ _) hS.pl hn (fun q1 => br1 ?_) (fun q1 => br0 (hb (fun z => q1 z.1)))
  refine c_isBelow (m := 2) rfl (by omega) (fun q2 => br1 ?_) (fun q2 => br0 (hb (fun z => q2 z.2)))
  obtain ⟨c, hc, rfl⟩ := inB_of q1 (by omega)
  obtain ⟨k, k1, k5, ek⟩ := hkd c hc
  have hg := fun V' => hg c V' hc rfl q2
  refine nz hS.pl.1.1 ?_
  refine cldo b4 b5 b6 (by omega) c rfl (by omega) ?_
  refine nz hS.pl.1.1 ?_
  refine cldo e4 e5 e6 (by omega) c rfl (by omega) ?_
  refine nz a1 ?_
  refine cld a7 a8 (by decide) a9 (by omega) c rfl (by omega) ?_
  refine nz hA.1.1 ?_
  refine c_abegin (CU_e _ _ _ _ _ _) hS.k hA ?_
  have hg := hg _ rfl
  show Wm 57 [some (.inr (.inr (7, y + 1))), some (.inl (nI c)), some (.inl wh)] [] (CU H K (abV V (nI c) (pA H (hfR H 604 (y + 1)) 108 c) (pA H (hfR H 604 (y + 1)) 109 c) (W 200 c)) W) 0 0
  rw [ek] at hg
  rw [ek]
  generalize pA H (hfR H 604 (y + 1)) 109 c = hd at *
  generalize W 200 c = ln' at *
  have v1 : abV V (nI c) (nI k) hd ln' 1 3 = 0 := rfl
  have v2 : abV V (nI c) (nI k) hd ln' 2 3 = nI c := rfl
  have v3 : abV V (nI c) (nI k) hd ln' 3 3 = nI k := rfl
  have v4 : abV V (nI c) (nI k) hd ln' 4 3 = hd := rfl
  have v5 : abV V (nI c) (nI k) hd ln' 5 3 = ln' := rfl
  generalize abV V (nI c) (nI k) hd ln' = V1 at *
  rw [← TC_0 (H := H) (K := K) (V := V1) (W := W) v1]
  obtain ⟨z, ez⟩ : ∃ q, hfR H 613 (y + 1) = q + 1 := ⟨hfR H 613 (y + 1) - 1, by have := hA.1.1; omega⟩
  rw [ez] at hA
  have call : ∀ kk' : Rt, (∀ v h', kk (some (.inl v)) h' → kk' (some (.inl v)) h') → CL (d + 9) mX6_answerOf 0 0 [.inr (.inr (1, z + 1)), .inl wh, .inl 0] (TC H K V1 W []) kk' := by
    intro kk' hkk
    obtain ⟨w, hw, ew⟩ := inB_of q2 (by omega)
    have hc2 : w = 0 ∨ w = 1 := by omega
    rcases hc2 with rfl | rfl
    · subst ew
      refine c_size (dp := 0) rfl (by omega) hT hS.k hA (by decide) v3 k1 k5 (hkk _ _ ?_)
      rw [v2, v4, v5]
      exact hg
    · subst ew
      refine c_mark (d := d + 3) (dp := 0) rfl (by omega) hT hS.k hA (by decide) v3 k1 k5 (hkk _ _ ?_)
      rw [v2, v4, v5]
      exact hg
  rw [← ez] at call
  refine go cut0 80 57 _ _ _ _ _ ?_
  exact call _ (fun v h' hq => hq)
end C18
