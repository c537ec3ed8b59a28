/-! ===== the class: a plan is cleared, its layers are settled ===== -/
section R8
variable {d q p t : Nat} {h : hp} {J P : Nat → Int32} {B : Nat → Nat → Int32} {kk : Rt}
set_option maxRecDepth 20000 in
theorem c_clear {p' : Nat} (ep : p' = p) (hS : RS h q p t) (hk : ∀ P' B', P' 102 = 0 ∧ P' 103 = 0 ∧ P' 104 = 0 → (∀ j, j < 8 → B' 105 j = 0 ∧ B' 106 j = 0 ∧ B' 107 j = 0) → kk none (RU h q p J P' B')) : CL d mX1_clear 0 0 [.inr (.inr (2, p'))] (RU h q p J P B) kk := by
  subst ep
  obtain ⟨p, rfl⟩ : ∃ z, p' = z + 1 := ⟨p' - 1, by have := hS.1.1; omega⟩
  refine mw T_X1_clear (fun Wm go => go (cut1 17) 60 0 _ _ _ _ _ ?_)
  refine wmc (Wm := Wm) (h' := RU h q (p + 1) J (upd (upd (upd P 102 0) 103 0) 104 0) B) ?_ rfl (by rw [RU_wP hS, RU_wP hS, RU_wP hS])
  obtain ⟨P', hP'⟩ : ∃ P' : Nat → Int32, P' = upd (upd (upd P 102 0) 103 0) 104 0 := ⟨_, rfl⟩
  have pz : P' 102 = 0 ∧ P' 103 = 0 ∧ P' 104 = 0 := by rw [hP']; exact ⟨rfl, rfl, rfl⟩
  rw [← hP']
  refine upto (n := 8) (P := fun k => ∀ B', (∀ j, j < k → B' 105 j = 0 ∧ B' 106 j = 0 ∧ B' 107 j = 0) → Wm 17 [some (.inr (.inr (2, p + 1))), some (.inl (nI k))] [] (RU h q (p + 1) J P' B') 0 0) (fun k hk8 ih B' hB => ?_) 0 (Nat.zero_le _) B (fun j hj => absurd hj (Nat.not_lt_zero j))
  refine go (cut1 17) 80 17 _ _ _ _ _ ?_
  refine icg rfl (show (8 : Int32) = nI 8 from rfl) (by omega) (by omega) (fun c => ?_) (fun c => ?_)
  · have e : k = 8 := by omega
    subst e
    exact hk P' B' pz hB
  · have fin : ∀ B3, (∀ j, j < k + 1 → B3 105 j = 0 ∧ B3 106 j = 0 ∧ B3 107 j = 0) → Wm 17 [some (.inr (.inr (2, p + 1))), some (.inl (nI k + 1))] [] (RU h q (p + 1) J P' B3) 0 0 := fun B3 hB3 => by
      rw [nI_1]; exact ih c B3 hB3
    refine rst (f := 105) hS (by decide) rfl (hS.2.2.1 105 (by decide)) (by omega) rfl c ?_
    refine rst (f := 106) hS (by decide) rfl (hS.2.2.1 106 (by decide)) (by omega) rfl c ?_
    refine rst (f := 107) hS (by decide) rfl (hS.2.2.1 107 (by decide)) (by omega) rfl c ?_
    refine fin _ (fun j hj => ⟨?_, ?_, ?_⟩)
    · rw [va_up_ne _ _ (by decide), va_up_ne _ _ (by decide), va_up_self]
      unfold upd
      by_cases c2 : j = k
      · rw [if_pos c2]
      · rw [if_neg c2]; exact (hB j (by omega)).1
    · rw [va_up_ne _ _ (by decide), va_up_self, va_up_ne _ _ (by decide)]
      unfold upd
      by_cases c2 : j = k
      · rw [if_pos c2]
      · rw [if_neg c2]; exact (hB j (by omega)).2.1
    · rw [va_up_self, va_up_ne _ _ (by decide), va_up_ne _ _ (by decide)]
      unfold upd
      by_cases c2 : j = k
      · rw [if_pos c2]
      · rw [if_neg c2]; exact (hB j (by omega)).2.2
set_option maxRecDepth 20000 in
theorem c_settle {p' n : Nat} (ep : p' = p) (hS : RS h q p t) (h2 : P 102 = nI n) (n8 : n ≤ 8) (hk : ∀ B', (∀ f, f ≠ 107 → B' f = B f) → ((∀ j, j < 8 → B 107 j = 0) → ∀ j, j < 8 → B' 107 j = lyF (B 106) n j) → kk none (RU h q p J P B')) : CL (d + 1) mX1_settleLayers 0 0 [.inr (.inr (2, p'))] (RU h q p J P B) kk := by
  subst ep
  obtain ⟨p, rfl⟩ : ∃ z, p' = z + 1 := ⟨p' - 1, by have := hS.1.1; omega⟩
  obtain ⟨on, hon⟩ : ∃ on : Nat → Int32, on = B 106 := ⟨_, rfl⟩
  rw [← hon] at hk
  have en : ∀ B', hfI (RU h q (p + 1) J P B') 102 (p + 1) = nI n := fun B' => (RU_p hS 102).trans h2
  refine mw3 T_X1_settleLayers (fun Wm go wk => go (cut1 2) 60 0 _ _ _ _ _ ?_)
  have L : ∀ k, k ≤ n → ∀ B', (∀ f, f ≠ 107 → B' f = B f) → ((∀ j, j < 8 → B 107 j = 0) → ∀ j, j < 8 → B' 107 j = lyF on k j) → Wm 2 [some (.inr (.inr (2, p + 1))), some (.inl (nI k)), none] [] (RU h q (p + 1) J P B') 0 0 := by
    refine upto (n := n) (fun k hk1 ih B' b1 b2 => ?_)
    refine go (cut1 12) 60 2 _ _ _ _ _ ?_
    refine icg rfl (en B') (by omega) (by omega) (fun c => ?_) (fun c => ?_)
    · have e : k = n := by omega
      subst e
      exact hk B' b1 b2
    · have ih := ih c
      refine upto (n := k) (P := fun u => ∀ B', (∀ f, f ≠ 107 → B' f = B f) → ((∀ j, j < 8 → B 107 j = 0) → ∀ j, j < 8 → B' 107 j = upd (lyF on k) k (lyI (on k) (lyF on k) u) j) → Wm 12 [some (.inr (.inr (2, p + 1))), some (.inl (nI k)), some (.inl (nI u))] [] (RU h q (p + 1) J P B') 0 0) (fun u hu ihu B' b1 b2 => ?_) 0 (Nat.zero_le _) B' b1 (fun z j hj => ?_)
      · refine go (cut2 54 60) 60 12 _ _ _ _ _ ?_
        refine icg rfl rfl (by omega) (by omega) (fun w => ?_) (fun w => ?_)
        · have e : u = k := by omega
          subst e
          have e := ih B' b1 b2
          rw [← nI_1] at e
          refine go (cut1 2) 20 60 _ _ _ _ _ ?_
          exact wk _ _ _ _ _ _ _ e (by repeat (first | exact ln | refine l0 ?_ | refine l1 rfl ?_))
        · have ihu := ihu w
          have fin : ∀ B3, (∀ f, f ≠ 107 → B3 f = B f) → ((∀ j, j < 8 → B 107 j = 0) → ∀ j, j < 8 → B3 107 j = upd (lyF on k) k (lyI (on k) (lyF on k) (u + 1)) j) → Wm 54 [some (.inr (.inr (2, p + 1))), some (.inl (nI k)), some (.inl (nI u))] [] (RU h q (p + 1) J P B3) 0 0 := fun B3 q1 q2 => by
            have e := ihu B3 q1 q2
            rw [← nI_1 u] at e
            exact go (cut1 12) 20 54 _ _ _ _ _ e
          have hs : lyI (on k) (lyF on k) (u + 1) = if hasB (on k) (nI u) then maxI (lyI (on k) (lyF on k) u) (lyF on k u + 1) else lyI (on k) (lyF on k) u := rfl
          rw [hs] at fin
          have b6 : B' 106 k = on k := by rw [b1 106 (by decide), hon]
          refine rld (f := 106) hS (by decide) rfl (hS.2.2.1 106 (by decide)) (by omega) rfl (show k < 8 by omega) ?_
          rw [b6]
          refine And.intro (fun w2 => ?_) (fun w2 => ?_)
          · have w2 : hasB (on k) (nI u) := w2
            rw [if_pos w2] at fin
            refine rld (f := 107) hS (by decide) rfl (hS.2.2.1 107 (by decide)) (by omega) rfl (show k < 8 by omega) ?_
            refine rld (f := 107) hS (by decide) rfl (hS.2.2.1 107 (by decide)) (by omega) rfl (show u < 8 by omega) ?_
            refine rst (f := 107) hS (by decide) rfl (hS.2.2.1 107 (by decide)) (by omega) rfl (show k < 8 by omega) ?_
            refine fin _ (fun f hf => (va_up_ne _ _ hf).trans (b1 f hf)) (fun z j hj => ?_)
            have b2 := b2 z
            have vk : B' 107 k = lyI (on k) (lyF on k) u := (b2 k (by omega)).trans (if_pos rfl)
            have vu : B' 107 u = lyF on k u := (b2 u (by omega)).trans (if_neg (by omega))
            rw [va_up_self]
            show (if j = k then maxI (B' 107 k) (B' 107 u + 1) else B' 107 j) = (if j = k then _ else lyF on k j)
            rw [vk, vu]
            by_cases c2 : j = k
            · rw [if_pos c2, if_pos c2]
            · rw [if_neg c2, if_neg c2]
              exact (b2 j hj).trans (if_neg c2)
          · have w2 : ¬ hasB (on k) (nI u) := w2
            rw [if_neg w2] at fin
            exact fin B' b1 b2
      · rw [b2 z j hj]
        show _ = (if j = k then 0 else _)
        by_cases c2 : j = k
        · rw [if_pos c2, c2]; exact lyF_hi _ k k (Nat.le_refl k)
        · rw [if_neg c2]
  have st := L 0 (Nat.zero_le _) B (fun _ _ => rfl) (fun z j hj => z j hj)
  exact wk _ _ _ _ _ _ _ st (by repeat (first | exact ln | refine l0 ?_ | refine l1 rfl ?_))
end R8
