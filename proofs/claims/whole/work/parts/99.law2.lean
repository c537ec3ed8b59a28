/-! ===== the law's loop ===== -/
section LP
variable {Wm : Nx} {b Ln y x : Nat} {xs : Nat → Int32}
theorem INV.t1 {t : Nat} {h : hp} (g : INV (y + 1) (x + 1) t h) : INV (y + 1) (x + 1) (t + 1) h := by
  obtain ⟨H, K, V, W, I, A, g1, g2, n, cm, at', am, by', tm, rs, hR⟩ := g
  exact ⟨H, K, V, W, I, A, g1, g2, n, cm, at', am, by', tm, rs, hR.t1⟩
theorem law_end {u : Int32} {t : Nat} (hL : Ln ≤ 384) (ht : t ≤ 64) (hu : u = nI Ln) (c : ¬ u - 6 < nI (6 * t)) : 6 * t + 6 ≤ Ln := by
  subst hu
  rw [Int32.lt_iff_toInt_lt, nI_toInt (show 6 * t < 2 ^ 31 by omega)] at c
  have e : (nI Ln - 6).toInt = (Ln : Int) - 6 := by
    rw [Int32.toInt_sub, nI_toInt (show Ln < 2 ^ 31 by omega), show (6 : Int32).toInt = 6 from rfl]
    exact Int.bmod_eq_of_le (by omega) (by omega)
  rw [e] at c
  omega
set_option maxRecDepth 20000 in
theorem law_loop (go : GoL Wm) (kn : KnL Wm b Ln xs) (hL : Ln ≤ 384) : ∀ (j t : Nat), t + j = 64 → ∀ (h : hp) (cu su : Nat), INV (y + 1) (x + 1) t h → cu ≤ 200 + 6 * t → su ≤ 3000 + 42 * t → Wm 18 (LLo b y x (nI (6 * t))) [] h cu su := by
  intro j
  induction j with
  | zero =>
    intro t e h cu su hI hcu hsu
    refine kn 18 _ _ _ _ _ rfl (fun hk => ?_)
    refine go (cut1 33) 40 18 _ _ _ _ _ ?_
    refine And.intro (fun _ => ⟨Or.inr rfl, rfl⟩) (fun c => ?_)
    have hi := law_end (t := t) hL (by omega) (congrArg nI hk.1) c
    omega
  | succ j ih =>
    intro t e h cu su hI hcu hsu
    refine kn 18 _ _ _ _ _ rfl (fun hk => ?_)
    refine go (cut1 33) 40 18 _ _ _ _ _ ?_
    refine And.intro (fun _ => ⟨Or.inr rfl, rfl⟩) (fun c => ?_)
    have hi := law_end (t := t) hL (by omega) (congrArg nI hk.1) c
    have hv : vp_in (nI (6 * t)) (haL h (b + 1)) := by rw [hk.1]; exact vp_in_nI (by omega) (by omega)
    refine And.intro hv ?_
    have nxt : ∀ (h' : hp) (cu' su' : Nat), INV (y + 1) (x + 1) (t + 1) h' → cu' ≤ 200 + 6 * (t + 1) → su' ≤ 3000 + 42 * (t + 1) → Wm 1281 (LLo b y x (nI (6 * t))) [] h' cu' su' := by
      intro h' cu' su' hI' hc' hs'
      refine go (cut1 18) 10 1281 _ _ _ _ _ ?_
      have r := ih (t + 1) (by omega) h' cu' su' hI' hc' hs'
      rw [show 6 * (t + 1) = 6 * t + 6 from by omega, ← nI_add] at r
      exact r
    refine go (fun pc => Nat.ble 192 pc) 4 33 _ _ _ _ _ ?_
    have dft := nxt h cu su hI.t1 (by omega) (by omega)
    obtain ⟨H, K, V, W, I, A, rfl, hmv, n, cm, at', am, by', tm, rs, hR⟩ := hI
    refine And.intro (fun _ => lc_row go kn hL hi H K V W I A n cm at' am by' tm rs cu su hcu hsu hmv hR hk nxt) (fun _ => ?_)
    refine And.intro (fun _ => lc_set go kn hL hi H K V W I A n cm at' am by' tm rs cu su hcu hsu hmv hR hk nxt) (fun _ => ?_)
    refine And.intro (fun _ => lc_copy go kn hL hi H K V W I A n cm at' am by' tm rs cu su hcu hsu hmv hR hk nxt) (fun _ => ?_)
    refine And.intro (fun _ => lc_drop go kn hL hi H K V W I A n cm at' am by' tm rs cu su hcu hsu hmv hR hk nxt) (fun _ => ?_)
    refine And.intro (fun _ => lc_feed go kn hL hi H K V W I A n cm at' am by' tm rs cu su hcu hsu hmv hR hk nxt) (fun _ => ?_)
    refine And.intro (fun _ => lc_castle go kn hL hi H K V W I A n cm at' am by' tm rs cu su hcu hsu hmv hR hk nxt) (fun _ => ?_)
    refine And.intro (fun _ => lc_fault go kn hL hi H K V W I A n cm at' am by' tm rs cu su hcu hsu hmv hR hk nxt) (fun _ => ?_)
    refine And.intro (fun _ => lc_undo go kn hL hi H K V W I A n cm at' am by' tm rs cu su hcu hsu hmv hR hk nxt) (fun _ => ?_)
    refine And.intro (fun _ => lc_write go kn hL hi H K V W I A n cm at' am by' tm rs cu su hcu hsu hmv hR hk nxt) (fun _ => ?_)
    refine And.intro (fun _ => lc_rub go kn hL hi H K V W I A n cm at' am by' tm rs cu su hcu hsu hmv hR hk nxt) (fun _ => ?_)
    refine And.intro (fun _ => lc_rain go kn hL hi H K V W I A n cm at' am by' tm rs cu su hcu hsu hmv hR hk nxt) (fun _ => ?_)
    refine And.intro (fun _ => lc_days go kn hL hi H K V W I A n cm at' am by' tm rs cu su hcu hsu hmv hR hk nxt) (fun _ => ?_)
    refine And.intro (fun _ => lc_block go kn hL hi H K V W I A n cm at' am by' tm rs cu su hcu hsu hmv hR hk nxt) (fun _ => ?_)
    refine And.intro (fun _ => lc_clerk go kn hL hi H K V W I A n cm at' am by' tm rs cu su hcu hsu hmv hR hk nxt) (fun _ => ?_)
    refine And.intro (fun _ => lc_takes go kn hL hi H K V W I A n cm at' am by' tm rs cu su hcu hsu hmv hR hk nxt) (fun _ => ?_)
    refine And.intro (fun _ => lc_stand go kn hL hi H K V W I A n cm at' am by' tm rs cu su hcu hsu hmv hR hk nxt) (fun _ => ?_)
    refine And.intro (fun _ => lc_wouldFall go kn hL hi H K V W I A n cm at' am by' tm rs cu su hcu hsu hmv hR hk nxt) (fun _ => ?_)
    refine And.intro (fun _ => lc_left go kn hL hi H K V W I A n cm at' am by' tm rs cu su hcu hsu hmv hR hk nxt) (fun _ => ?_)
    refine And.intro (fun _ => lc_leastFallen go kn hL hi H K V W I A n cm at' am by' tm rs cu su hcu hsu hmv hR hk nxt) (fun _ => ?_)
    refine And.intro (fun _ => lc_must go kn hL hi H K V W I A n cm at' am by' tm rs cu su hcu hsu hmv hR hk nxt) (fun _ => ?_)
    refine And.intro (fun _ => lc_writings go kn hL hi H K V W I A n cm at' am by' tm rs cu su hcu hsu hmv hR hk nxt) (fun _ => ?_)
    refine And.intro (fun _ => lc_from go kn hL hi H K V W I A n cm at' am by' tm rs cu su hcu hsu hmv hR hk nxt) (fun _ => ?_)
    refine And.intro (fun _ => lc_who go kn hL hi H K V W I A n cm at' am by' tm rs cu su hcu hsu hmv hR hk nxt) (fun _ => ?_)
    refine And.intro (fun _ => lc_layer go kn hL hi H K V W I A n cm at' am by' tm rs cu su hcu hsu hmv hR hk nxt) (fun _ => ?_)
    refine And.intro (fun _ => lc_longest go kn hL hi H K V W I A n cm at' am by' tm rs cu su hcu hsu hmv hR hk nxt) (fun _ => ?_)
    refine And.intro (fun _ => lc_rains go kn hL hi H K V W I A n cm at' am by' tm rs cu su hcu hsu hmv hR hk nxt) (fun _ => ?_)
    refine And.intro (fun _ => lc_share go kn hL hi H K V W I A n cm at' am by' tm rs cu su hcu hsu hmv hR hk nxt) (fun _ => ?_)
    refine And.intro (fun _ => lc_drawn go kn hL hi H K V W I A n cm at' am by' tm rs cu su hcu hsu hmv hR hk nxt) (fun _ => ?_)
    refine And.intro (fun _ => lc_image go kn hL hi H K V W I A n cm at' am by' tm rs cu su hcu hsu hmv hR hk nxt) (fun _ => ?_)
    refine And.intro (fun _ => lc_restore go kn hL hi H K V W I A n cm at' am by' tm rs cu su hcu hsu hmv hR hk nxt) (fun _ => ?_)
    refine And.intro (fun _ => lc_kind go kn hL hi H K V W I A n cm at' am by' tm rs cu su hcu hsu hmv hR hk nxt) (fun _ => ?_)
    refine And.intro (fun _ => lc_as go kn hL hi H K V W I A n cm at' am by' tm rs cu su hcu hsu hmv hR hk nxt) (fun _ => ?_)
    refine And.intro (fun _ => lc_ask go kn hL hi H K V W I A n cm at' am by' tm rs cu su hcu hsu hmv hR hk nxt) (fun _ => ?_)
    refine And.intro (fun _ => lc_trace go kn hL hi H K V W I A n cm at' am by' tm rs cu su hcu hsu hmv hR hk nxt) (fun _ => ?_)
    refine And.intro (fun _ => lc_count go kn hL hi H K V W I A n cm at' am by' tm rs cu su hcu hsu hmv hR hk nxt) (fun _ => ?_)
    refine And.intro (fun _ => lc_status go kn hL hi H K V W I A n cm at' am by' tm rs cu su hcu hsu hmv hR hk nxt) (fun _ => ?_)
    exact dft
end LP
