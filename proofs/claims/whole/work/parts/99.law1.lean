/-! ===== the law's cases ===== -/
def kkL : Rt := fun v _ => v = some (.inl 1)
def GoL (Wm : Nx) : Prop := ∀ (cut : Nat → Bool) (n pc : Nat) (L : Lo) (S : List pv) (h : hp) (cu su : Nat), P_L_law pc CL 21 600000 7302250 kkL (blk P_L_law cut Wm CL 21 600000 7302250 kkL n) L S h cu su → Wm pc L S h cu su
/-- what is known of the script at h -/
def Scr (h : hp) (b Ln : Nat) (xs : Nat → Int32) : Prop := haL h (b + 1) = Ln ∧ ∀ j, j < Ln → haI h (b + 1) j = xs j
def KnL (Wm : Nx) (b Ln : Nat) (xs : Nat → Int32) : Prop := ∀ (pc : Nat) (L : Lo) (S : List pv) (h : hp) (cu su : Nat), lget L 0 = some (.inr (.inr (25, b + 1))) → (Scr h b Ln xs → Wm pc L S h cu su) → Wm pc L S h cu su
abbrev LLo (b y x : Nat) (w : Int32) : Lo := [some (.inr (.inr (25, b + 1))), some (.inr (.inr (7, y + 1))), some (.inr (.inr (8, x + 1))), some (.inl w)]
def Lcase (Wm : Nx) (b Ln : Nat) (xs : Nat → Int32) (y x t pc : Nat) : Prop := GoL Wm → KnL Wm b Ln xs → Ln ≤ 384 → 6 * t + 6 ≤ Ln → ∀ (H : hp) (K : Nat → Nat) (V W : Nat → Nat → Int32) (I : Nat → Int32) (A : Nat → Nat → Int32) (n cm at' am by' tm : Nat) (rs : Nat → Option Nat) (cu su : Nat), cu ≤ 200 + 6 * t → su ≤ 3000 + 42 * t → MVal H (x + 1) I A → RD H K V W (y + 1) (x + 1) I A n cm at' am by' tm rs t → Scr (CU H K V W) b Ln xs →
  (∀ (h' : hp) (cu' su' : Nat), INV (y + 1) (x + 1) (t + 1) h' → cu' ≤ 200 + 6 * (t + 1) → su' ≤ 3000 + 42 * (t + 1) → Wm 1281 (LLo b y x (nI (6 * t))) [] h' cu' su') → Wm pc (LLo b y x (nI (6 * t))) [] (CU H K V W) cu su
theorem law_vi {h : hp} {b Ln t k : Nat} {c : Int32} (e : haL h (b + 1) = Ln) (hL : Ln ≤ 384) (hi : 6 * t + 6 ≤ Ln) (hc : c = nI k) (hk : k < 6) : vp_in (nI (6 * t) + c) (haL h (b + 1)) := by
  rw [e, hc, nI_add]
  exact vp_in_nI (by omega) (by omega)
theorem law_sc {h h1 : hp} {b Ln t k : Nat} {xs : Nat → Int32} {c : Int32} (q : Scr h b Ln xs) (q1 : Scr h1 b Ln xs) (hL : Ln ≤ 384) (hi : 6 * t + 6 ≤ Ln) (hc : c = nI k) (hk : k < 6) : haI h1 (b + 1) (nI (6 * t) + c).toNatClampNeg = haI h (b + 1) (nI (6 * t) + c).toNatClampNeg := by
  rw [hc, nI_add, nI_clamp (by omega), q.2 _ (by omega), q1.2 _ (by omega)]
theorem law_ar {d mc ms : Nat} {y : MI} {as bs : List pv} {h : hp} {kk : Rt} (e : as = bs) (g : CL d y mc ms bs h kk) : CL d y mc ms as h kk := by rw [e]; exact g
theorem lg_cmp_self (v : Int64) : lg_cmp v v = 0 := by unfold lg_cmp; simp
section LC
variable {Wm : Nx} {b Ln y x t : Nat} {xs : Nat → Int32}
theorem lc_row : Lcase Wm b Ln xs y x t 192 := by
  intro go kn hL hi H K V W I A n cm at' am by' tm rs cu su hcu hsu hmv hR hk nxt
  refine go (cut2 211 1281) 60 192 _ _ _ _ _ ?_
  refine And.intro (law_vi hk.1 hL hi rfl (by decide : 1 < 6)) ?_
  refine And.intro (law_vi hk.1 hL hi rfl (by decide : 2 < 6)) ?_
  refine And.intro (law_vi hk.1 hL hi rfl (by decide : 3 < 6)) ?_
  refine b_row hmv hR _ (fun v h1 hm => ?_)
  refine kn 211 _ _ _ _ _ rfl (fun hk1 => ?_)
  refine go (cut2 1281 1281) 60 211 _ _ _ _ _ ?_
  refine And.intro (law_vi hk1.1 hL hi rfl (by decide : 1 < 6)) ?_
  refine And.intro (law_vi hk1.1 hL hi rfl (by decide : 2 < 6)) ?_
  refine And.intro (law_vi hk1.1 hL hi rfl (by decide : 3 < 6)) ?_
  refine law_ar (as := [.inr (.inr (8, x + 1)), .inl (haI h1 (b + 1) (nI (6 * t) + 1).toNatClampNeg), .inl (haI h1 (b + 1) (nI (6 * t) + 2).toNatClampNeg), .inl (haI h1 (b + 1) (nI (6 * t) + 3).toNatClampNeg)]) (bs := [.inr (.inr (8, x + 1)), .inl (haI (CU H K V W) (b + 1) (nI (6 * t) + 1).toNatClampNeg), .inl (haI (CU H K V W) (b + 1) (nI (6 * t) + 2).toNatClampNeg), .inl (haI (CU H K V W) (b + 1) (nI (6 * t) + 3).toNatClampNeg)]) (by rw [law_sc hk hk1 hL hi (c := 1) rfl (by decide : 1 < 6), law_sc hk hk1 hL hi (c := 2) rfl (by decide : 2 < 6), law_sc hk hk1 hL hi (c := 3) rfl (by decide : 3 < 6)]) (hm _ (fun h2 hI => ?_))
  exact ⟨fun _ => nxt _ _ _ hI (by omega) (by omega), fun c => absurd rfl c⟩
theorem lc_set : Lcase Wm b Ln xs y x t 235 := by
  intro go kn hL hi H K V W I A n cm at' am by' tm rs cu su hcu hsu hmv hR hk nxt
  refine go (cut2 254 1281) 60 235 _ _ _ _ _ ?_
  refine And.intro (law_vi hk.1 hL hi rfl (by decide : 1 < 6)) ?_
  refine And.intro (law_vi hk.1 hL hi rfl (by decide : 2 < 6)) ?_
  refine And.intro (law_vi hk.1 hL hi rfl (by decide : 3 < 6)) ?_
  refine b_set hmv hR _ (fun v h1 hm => ?_)
  refine kn 254 _ _ _ _ _ rfl (fun hk1 => ?_)
  refine go (cut2 1281 1281) 60 254 _ _ _ _ _ ?_
  refine And.intro (law_vi hk1.1 hL hi rfl (by decide : 1 < 6)) ?_
  refine And.intro (law_vi hk1.1 hL hi rfl (by decide : 2 < 6)) ?_
  refine And.intro (law_vi hk1.1 hL hi rfl (by decide : 3 < 6)) ?_
  refine law_ar (as := [.inr (.inr (8, x + 1)), .inl (haI h1 (b + 1) (nI (6 * t) + 1).toNatClampNeg), .inl (haI h1 (b + 1) (nI (6 * t) + 2).toNatClampNeg), .inl (haI h1 (b + 1) (nI (6 * t) + 3).toNatClampNeg)]) (bs := [.inr (.inr (8, x + 1)), .inl (haI (CU H K V W) (b + 1) (nI (6 * t) + 1).toNatClampNeg), .inl (haI (CU H K V W) (b + 1) (nI (6 * t) + 2).toNatClampNeg), .inl (haI (CU H K V W) (b + 1) (nI (6 * t) + 3).toNatClampNeg)]) (by rw [law_sc hk hk1 hL hi (c := 1) rfl (by decide : 1 < 6), law_sc hk hk1 hL hi (c := 2) rfl (by decide : 2 < 6), law_sc hk hk1 hL hi (c := 3) rfl (by decide : 3 < 6)]) (hm _ (fun h2 hI => ?_))
  exact ⟨fun _ => nxt _ _ _ hI (by omega) (by omega), fun c => absurd rfl c⟩
theorem lc_copy : Lcase Wm b Ln xs y x t 278 := by
  intro go kn hL hi H K V W I A n cm at' am by' tm rs cu su hcu hsu hmv hR hk nxt
  refine go (cut2 307 1281) 60 278 _ _ _ _ _ ?_
  refine And.intro (law_vi hk.1 hL hi rfl (by decide : 1 < 6)) ?_
  refine And.intro (law_vi hk.1 hL hi rfl (by decide : 2 < 6)) ?_
  refine And.intro (law_vi hk.1 hL hi rfl (by decide : 3 < 6)) ?_
  refine And.intro (law_vi hk.1 hL hi rfl (by decide : 4 < 6)) ?_
  refine And.intro (law_vi hk.1 hL hi rfl (by decide : 5 < 6)) ?_
  refine b_copy hmv hR _ (fun v h1 hm => ?_)
  refine kn 307 _ _ _ _ _ rfl (fun hk1 => ?_)
  refine go (cut2 1281 1281) 60 307 _ _ _ _ _ ?_
  refine And.intro (law_vi hk1.1 hL hi rfl (by decide : 1 < 6)) ?_
  refine And.intro (law_vi hk1.1 hL hi rfl (by decide : 2 < 6)) ?_
  refine And.intro (law_vi hk1.1 hL hi rfl (by decide : 3 < 6)) ?_
  refine And.intro (law_vi hk1.1 hL hi rfl (by decide : 4 < 6)) ?_
  refine And.intro (law_vi hk1.1 hL hi rfl (by decide : 5 < 6)) ?_
  refine law_ar (as := [.inr (.inr (8, x + 1)), .inl (haI h1 (b + 1) (nI (6 * t) + 1).toNatClampNeg), .inl (haI h1 (b + 1) (nI (6 * t) + 2).toNatClampNeg), .inl (haI h1 (b + 1) (nI (6 * t) + 3).toNatClampNeg), .inl (haI h1 (b + 1) (nI (6 * t) + 4).toNatClampNeg), .inl (haI h1 (b + 1) (nI (6 * t) + 5).toNatClampNeg)]) (bs := [.inr (.inr (8, x + 1)), .inl (haI (CU H K V W) (b + 1) (nI (6 * t) + 1).toNatClampNeg), .inl (haI (CU H K V W) (b + 1) (nI (6 * t) + 2).toNatClampNeg), .inl (haI (CU H K V W) (b + 1) (nI (6 * t) + 3).toNatClampNeg), .inl (haI (CU H K V W) (b + 1) (nI (6 * t) + 4).toNatClampNeg), .inl (haI (CU H K V W) (b + 1) (nI (6 * t) + 5).toNatClampNeg)]) (by rw [law_sc hk hk1 hL hi (c := 1) rfl (by decide : 1 < 6), law_sc hk hk1 hL hi (c := 2) rfl (by decide : 2 < 6), law_sc hk hk1 hL hi (c := 3) rfl (by decide : 3 < 6), law_sc hk hk1 hL hi (c := 4) rfl (by decide : 4 < 6), law_sc hk hk1 hL hi (c := 5) rfl (by decide : 5 < 6)]) (hm _ (fun h2 hI => ?_))
  exact ⟨fun _ => nxt _ _ _ hI (by omega) (by omega), fun c => absurd rfl c⟩
theorem lc_drop : Lcase Wm b Ln xs y x t 341 := by
  intro go kn hL hi H K V W I A n cm at' am by' tm rs cu su hcu hsu hmv hR hk nxt
  refine go (cut2 350 1281) 60 341 _ _ _ _ _ ?_
  refine And.intro (law_vi hk.1 hL hi rfl (by decide : 1 < 6)) ?_
  refine b_drop hmv hR _ (fun v h1 hm => ?_)
  refine kn 350 _ _ _ _ _ rfl (fun hk1 => ?_)
  refine go (cut2 1281 1281) 60 350 _ _ _ _ _ ?_
  refine And.intro (law_vi hk1.1 hL hi rfl (by decide : 1 < 6)) ?_
  refine law_ar (as := [.inr (.inr (8, x + 1)), .inl (haI h1 (b + 1) (nI (6 * t) + 1).toNatClampNeg)]) (bs := [.inr (.inr (8, x + 1)), .inl (haI (CU H K V W) (b + 1) (nI (6 * t) + 1).toNatClampNeg)]) (by rw [law_sc hk hk1 hL hi (c := 1) rfl (by decide : 1 < 6)]) (hm _ (fun h2 hI => ?_))
  exact ⟨fun _ => nxt _ _ _ hI (by omega) (by omega), fun c => absurd rfl c⟩
theorem lc_feed : Lcase Wm b Ln xs y x t 364 := by
  intro go kn hL hi H K V W I A n cm at' am by' tm rs cu su hcu hsu hmv hR hk nxt
  refine go (cut2 373 1281) 60 364 _ _ _ _ _ ?_
  refine And.intro (law_vi hk.1 hL hi rfl (by decide : 1 < 6)) ?_
  refine b_feed hmv hR _ (fun v h1 hm => ?_)
  refine kn 373 _ _ _ _ _ rfl (fun hk1 => ?_)
  refine go (cut2 1281 1281) 60 373 _ _ _ _ _ ?_
  refine And.intro (law_vi hk1.1 hL hi rfl (by decide : 1 < 6)) ?_
  refine law_ar (as := [.inr (.inr (8, x + 1)), .inl (haI h1 (b + 1) (nI (6 * t) + 1).toNatClampNeg)]) (bs := [.inr (.inr (8, x + 1)), .inl (haI (CU H K V W) (b + 1) (nI (6 * t) + 1).toNatClampNeg)]) (by rw [law_sc hk hk1 hL hi (c := 1) rfl (by decide : 1 < 6)]) (hm _ (fun h2 hI => ?_))
  exact ⟨fun _ => nxt _ _ _ hI (by omega) (by omega), fun c => absurd rfl c⟩
theorem lc_castle : Lcase Wm b Ln xs y x t 387 := by
  intro go kn hL hi H K V W I A n cm at' am by' tm rs cu su hcu hsu hmv hR hk nxt
  refine go (cut2 391 1281) 60 387 _ _ _ _ _ ?_
  refine b_castle hmv hR _ (fun v h1 hm => ?_)
  refine kn 391 _ _ _ _ _ rfl (fun hk1 => ?_)
  refine go (cut2 1281 1281) 60 391 _ _ _ _ _ ?_
  refine law_ar (as := [.inr (.inr (8, x + 1))]) (bs := [.inr (.inr (8, x + 1))]) (rfl) (hm _ (fun h2 hI => ?_))
  exact ⟨fun _ => nxt _ _ _ hI (by omega) (by omega), fun c => absurd rfl c⟩
theorem lc_fault : Lcase Wm b Ln xs y x t 400 := by
  intro go kn hL hi H K V W I A n cm at' am by' tm rs cu su hcu hsu hmv hR hk nxt
  refine go (cut2 404 1281) 60 400 _ _ _ _ _ ?_
  refine b_fault hmv hR _ (fun v h1 hm => ?_)
  refine kn 404 _ _ _ _ _ rfl (fun hk1 => ?_)
  refine go (cut2 1281 1281) 60 404 _ _ _ _ _ ?_
  refine law_ar (as := [.inr (.inr (8, x + 1))]) (bs := [.inr (.inr (8, x + 1))]) (rfl) (hm _ (fun h2 hI => ?_))
  exact ⟨fun _ => nxt _ _ _ hI (by omega) (by omega), fun c => absurd rfl c⟩
theorem lc_undo : Lcase Wm b Ln xs y x t 413 := by
  intro go kn hL hi H K V W I A n cm at' am by' tm rs cu su hcu hsu hmv hR hk nxt
  refine go (cut2 417 1281) 60 413 _ _ _ _ _ ?_
  refine b_undo hmv hR _ (fun v h1 hm => ?_)
  refine kn 417 _ _ _ _ _ rfl (fun hk1 => ?_)
  refine go (cut2 1281 1281) 60 417 _ _ _ _ _ ?_
  refine law_ar (as := [.inr (.inr (8, x + 1))]) (bs := [.inr (.inr (8, x + 1))]) (rfl) (hm _ (fun h2 hI => ?_))
  exact ⟨fun _ => nxt _ _ _ hI (by omega) (by omega), fun c => absurd rfl c⟩
theorem lc_write : Lcase Wm b Ln xs y x t 426 := by
  intro go kn hL hi H K V W I A n cm at' am by' tm rs cu su hcu hsu hmv hR hk nxt
  refine go (cut2 445 1281) 60 426 _ _ _ _ _ ?_
  refine And.intro (law_vi hk.1 hL hi rfl (by decide : 1 < 6)) ?_
  refine And.intro (law_vi hk.1 hL hi rfl (by decide : 2 < 6)) ?_
  refine And.intro (law_vi hk.1 hL hi rfl (by decide : 3 < 6)) ?_
  refine b_write hmv hR _ (fun v h1 hm => ?_)
  refine kn 445 _ _ _ _ _ rfl (fun hk1 => ?_)
  refine go (cut2 1281 1281) 60 445 _ _ _ _ _ ?_
  refine And.intro (law_vi hk1.1 hL hi rfl (by decide : 1 < 6)) ?_
  refine And.intro (law_vi hk1.1 hL hi rfl (by decide : 2 < 6)) ?_
  refine And.intro (law_vi hk1.1 hL hi rfl (by decide : 3 < 6)) ?_
  refine law_ar (as := [.inr (.inr (8, x + 1)), .inl (haI h1 (b + 1) (nI (6 * t) + 1).toNatClampNeg), .inl (haI h1 (b + 1) (nI (6 * t) + 2).toNatClampNeg), .inl (haI h1 (b + 1) (nI (6 * t) + 3).toNatClampNeg)]) (bs := [.inr (.inr (8, x + 1)), .inl (haI (CU H K V W) (b + 1) (nI (6 * t) + 1).toNatClampNeg), .inl (haI (CU H K V W) (b + 1) (nI (6 * t) + 2).toNatClampNeg), .inl (haI (CU H K V W) (b + 1) (nI (6 * t) + 3).toNatClampNeg)]) (by rw [law_sc hk hk1 hL hi (c := 1) rfl (by decide : 1 < 6), law_sc hk hk1 hL hi (c := 2) rfl (by decide : 2 < 6), law_sc hk hk1 hL hi (c := 3) rfl (by decide : 3 < 6)]) (hm _ (fun h2 hI => ?_))
  exact ⟨fun _ => nxt _ _ _ hI (by omega) (by omega), fun c => absurd rfl c⟩
theorem lc_rub : Lcase Wm b Ln xs y x t 469 := by
  intro go kn hL hi H K V W I A n cm at' am by' tm rs cu su hcu hsu hmv hR hk nxt
  refine go (cut2 483 1281) 60 469 _ _ _ _ _ ?_
  refine And.intro (law_vi hk.1 hL hi rfl (by decide : 1 < 6)) ?_
  refine And.intro (law_vi hk.1 hL hi rfl (by decide : 2 < 6)) ?_
  refine b_rub hmv hR _ (fun v h1 hm => ?_)
  refine kn 483 _ _ _ _ _ rfl (fun hk1 => ?_)
  refine go (cut2 1281 1281) 60 483 _ _ _ _ _ ?_
  refine And.intro (law_vi hk1.1 hL hi rfl (by decide : 1 < 6)) ?_
  refine And.intro (law_vi hk1.1 hL hi rfl (by decide : 2 < 6)) ?_
  refine law_ar (as := [.inr (.inr (8, x + 1)), .inl (haI h1 (b + 1) (nI (6 * t) + 1).toNatClampNeg), .inl (haI h1 (b + 1) (nI (6 * t) + 2).toNatClampNeg)]) (bs := [.inr (.inr (8, x + 1)), .inl (haI (CU H K V W) (b + 1) (nI (6 * t) + 1).toNatClampNeg), .inl (haI (CU H K V W) (b + 1) (nI (6 * t) + 2).toNatClampNeg)]) (by rw [law_sc hk hk1 hL hi (c := 1) rfl (by decide : 1 < 6), law_sc hk hk1 hL hi (c := 2) rfl (by decide : 2 < 6)]) (hm _ (fun h2 hI => ?_))
  exact ⟨fun _ => nxt _ _ _ hI (by omega) (by omega), fun c => absurd rfl c⟩
theorem lc_rain : Lcase Wm b Ln xs y x t 502 := by
  intro go kn hL hi H K V W I A n cm at' am by' tm rs cu su hcu hsu hmv hR hk nxt
  refine go (cut2 506 1281) 60 502 _ _ _ _ _ ?_
  refine b_rain hmv hR _ (fun v h1 hm => ?_)
  refine kn 506 _ _ _ _ _ rfl (fun hk1 => ?_)
  refine go (cut2 1281 1281) 60 506 _ _ _ _ _ ?_
  refine law_ar (as := [.inr (.inr (8, x + 1))]) (bs := [.inr (.inr (8, x + 1))]) (rfl) (hm _ (fun h2 hI => ?_))
  exact ⟨fun _ => nxt _ _ _ hI (by omega) (by omega), fun c => absurd rfl c⟩
theorem lc_days : Lcase Wm b Ln xs y x t 515 := by
  intro go kn hL hi H K V W I A n cm at' am by' tm rs cu su hcu hsu hmv hR hk nxt
  refine go (cut2 524 1281) 60 515 _ _ _ _ _ ?_
  refine And.intro (law_vi hk.1 hL hi rfl (by decide : 1 < 6)) ?_
  refine b_days hmv hR _ (fun v h1 hm => ?_)
  refine kn 524 _ _ _ _ _ rfl (fun hk1 => ?_)
  refine go (cut2 1281 1281) 60 524 _ _ _ _ _ ?_
  refine And.intro (law_vi hk1.1 hL hi rfl (by decide : 1 < 6)) ?_
  refine law_ar (as := [.inr (.inr (8, x + 1)), .inl (haI h1 (b + 1) (nI (6 * t) + 1).toNatClampNeg)]) (bs := [.inr (.inr (8, x + 1)), .inl (haI (CU H K V W) (b + 1) (nI (6 * t) + 1).toNatClampNeg)]) (by rw [law_sc hk hk1 hL hi (c := 1) rfl (by decide : 1 < 6)]) (hm _ (fun h2 hI => ?_))
  exact ⟨fun _ => nxt _ _ _ hI (by omega) (by omega), fun c => absurd rfl c⟩
theorem lc_block : Lcase Wm b Ln xs y x t 538 := by
  intro go kn hL hi H K V W I A n cm at' am by' tm rs cu su hcu hsu hmv hR hk nxt
  refine go (cut2 552 1281) 60 538 _ _ _ _ _ ?_
  refine And.intro (law_vi hk.1 hL hi rfl (by decide : 1 < 6)) ?_
  refine And.intro (law_vi hk.1 hL hi rfl (by decide : 2 < 6)) ?_
  refine b_block hmv hR _ (fun v h1 hm => ?_)
  refine kn 552 _ _ _ _ _ rfl (fun hk1 => ?_)
  refine go (cut2 1281 1281) 60 552 _ _ _ _ _ ?_
  refine And.intro (law_vi hk1.1 hL hi rfl (by decide : 1 < 6)) ?_
  refine And.intro (law_vi hk1.1 hL hi rfl (by decide : 2 < 6)) ?_
  refine law_ar (as := [.inr (.inr (8, x + 1)), .inl (haI h1 (b + 1) (nI (6 * t) + 1).toNatClampNeg), .inl (haI h1 (b + 1) (nI (6 * t) + 2).toNatClampNeg)]) (bs := [.inr (.inr (8, x + 1)), .inl (haI (CU H K V W) (b + 1) (nI (6 * t) + 1).toNatClampNeg), .inl (haI (CU H K V W) (b + 1) (nI (6 * t) + 2).toNatClampNeg)]) (by rw [law_sc hk hk1 hL hi (c := 1) rfl (by decide : 1 < 6), law_sc hk hk1 hL hi (c := 2) rfl (by decide : 2 < 6)]) (hm _ (fun h2 hI => ?_))
  exact ⟨fun _ => nxt _ _ _ hI (by omega) (by omega), fun c => absurd rfl c⟩
theorem lc_clerk : Lcase Wm b Ln xs y x t 571 := by
  intro go kn hL hi H K V W I A n cm at' am by' tm rs cu su hcu hsu hmv hR hk nxt
  refine go (cut2 585 1281) 60 571 _ _ _ _ _ ?_
  refine And.intro (law_vi hk.1 hL hi rfl (by decide : 1 < 6)) ?_
  refine And.intro (law_vi hk.1 hL hi rfl (by decide : 2 < 6)) ?_
  refine b_clerk hmv hR _ (fun v h1 hm => ?_)
  refine kn 585 _ _ _ _ _ rfl (fun hk1 => ?_)
  refine go (cut2 1281 1281) 60 585 _ _ _ _ _ ?_
  refine And.intro (law_vi hk1.1 hL hi rfl (by decide : 1 < 6)) ?_
  refine And.intro (law_vi hk1.1 hL hi rfl (by decide : 2 < 6)) ?_
  refine law_ar (as := [.inr (.inr (8, x + 1)), .inl (haI h1 (b + 1) (nI (6 * t) + 1).toNatClampNeg), .inl (haI h1 (b + 1) (nI (6 * t) + 2).toNatClampNeg)]) (bs := [.inr (.inr (8, x + 1)), .inl (haI (CU H K V W) (b + 1) (nI (6 * t) + 1).toNatClampNeg), .inl (haI (CU H K V W) (b + 1) (nI (6 * t) + 2).toNatClampNeg)]) (by rw [law_sc hk hk1 hL hi (c := 1) rfl (by decide : 1 < 6), law_sc hk hk1 hL hi (c := 2) rfl (by decide : 2 < 6)]) (hm _ (fun h2 hI => ?_))
  exact ⟨fun _ => nxt _ _ _ hI (by omega) (by omega), fun c => absurd rfl c⟩
theorem lc_takes : Lcase Wm b Ln xs y x t 604 := by
  intro go kn hL hi H K V W I A n cm at' am by' tm rs cu su hcu hsu hmv hR hk nxt
  refine go (cut2 618 1281) 60 604 _ _ _ _ _ ?_
  refine And.intro (law_vi hk.1 hL hi rfl (by decide : 1 < 6)) ?_
  refine And.intro (law_vi hk.1 hL hi rfl (by decide : 2 < 6)) ?_
  refine b_takes hmv hR _ (fun v h1 hm => ?_)
  refine kn 618 _ _ _ _ _ rfl (fun hk1 => ?_)
  refine go (cut2 1281 1281) 60 618 _ _ _ _ _ ?_
  refine And.intro (law_vi hk1.1 hL hi rfl (by decide : 1 < 6)) ?_
  refine And.intro (law_vi hk1.1 hL hi rfl (by decide : 2 < 6)) ?_
  refine law_ar (as := [.inr (.inr (8, x + 1)), .inl (haI h1 (b + 1) (nI (6 * t) + 1).toNatClampNeg), .inl (haI h1 (b + 1) (nI (6 * t) + 2).toNatClampNeg)]) (bs := [.inr (.inr (8, x + 1)), .inl (haI (CU H K V W) (b + 1) (nI (6 * t) + 1).toNatClampNeg), .inl (haI (CU H K V W) (b + 1) (nI (6 * t) + 2).toNatClampNeg)]) (by rw [law_sc hk hk1 hL hi (c := 1) rfl (by decide : 1 < 6), law_sc hk hk1 hL hi (c := 2) rfl (by decide : 2 < 6)]) (hm _ (fun h2 hI => ?_))
  exact ⟨fun _ => nxt _ _ _ hI (by omega) (by omega), fun c => absurd rfl c⟩
theorem lc_stand : Lcase Wm b Ln xs y x t 637 := by
  intro go kn hL hi H K V W I A n cm at' am by' tm rs cu su hcu hsu hmv hR hk nxt
  refine go (cut2 646 1281) 60 637 _ _ _ _ _ ?_
  refine And.intro (law_vi hk.1 hL hi rfl (by decide : 1 < 6)) ?_
  refine b_stand hmv hR _ (fun v h1 hm => ?_)
  refine kn 646 _ _ _ _ _ rfl (fun hk1 => ?_)
  refine go (cut2 1281 1281) 60 646 _ _ _ _ _ ?_
  refine And.intro (law_vi hk1.1 hL hi rfl (by decide : 1 < 6)) ?_
  refine law_ar (as := [.inr (.inr (8, x + 1)), .inl (haI h1 (b + 1) (nI (6 * t) + 1).toNatClampNeg)]) (bs := [.inr (.inr (8, x + 1)), .inl (haI (CU H K V W) (b + 1) (nI (6 * t) + 1).toNatClampNeg)]) (by rw [law_sc hk hk1 hL hi (c := 1) rfl (by decide : 1 < 6)]) (hm _ (fun h2 hI => ?_))
  exact ⟨fun _ => nxt _ _ _ hI (by omega) (by omega), fun c => absurd rfl c⟩
theorem lc_wouldFall : Lcase Wm b Ln xs y x t 660 := by
  intro go kn hL hi H K V W I A n cm at' am by' tm rs cu su hcu hsu hmv hR hk nxt
  refine go (cut2 669 1281) 60 660 _ _ _ _ _ ?_
  refine And.intro (law_vi hk.1 hL hi rfl (by decide : 1 < 6)) ?_
  refine b_wouldFall hmv hR _ (fun v h1 hm => ?_)
  refine kn 669 _ _ _ _ _ rfl (fun hk1 => ?_)
  refine go (cut2 1281 1281) 60 669 _ _ _ _ _ ?_
  refine And.intro (law_vi hk1.1 hL hi rfl (by decide : 1 < 6)) ?_
  refine law_ar (as := [.inr (.inr (8, x + 1)), .inl (haI h1 (b + 1) (nI (6 * t) + 1).toNatClampNeg)]) (bs := [.inr (.inr (8, x + 1)), .inl (haI (CU H K V W) (b + 1) (nI (6 * t) + 1).toNatClampNeg)]) (by rw [law_sc hk hk1 hL hi (c := 1) rfl (by decide : 1 < 6)]) (hm _ (fun h2 hI => ?_))
  exact ⟨fun _ => nxt _ _ _ hI (by omega) (by omega), fun c => absurd rfl c⟩
theorem lc_left : Lcase Wm b Ln xs y x t 683 := by
  intro go kn hL hi H K V W I A n cm at' am by' tm rs cu su hcu hsu hmv hR hk nxt
  refine go (cut2 692 1281) 60 683 _ _ _ _ _ ?_
  refine And.intro (law_vi hk.1 hL hi rfl (by decide : 1 < 6)) ?_
  refine b_left hmv hR _ (fun v h1 hm => ?_)
  refine kn 692 _ _ _ _ _ rfl (fun hk1 => ?_)
  refine go (cut2 1281 1281) 60 692 _ _ _ _ _ ?_
  refine And.intro (law_vi hk1.1 hL hi rfl (by decide : 1 < 6)) ?_
  refine law_ar (as := [.inr (.inr (8, x + 1)), .inl (haI h1 (b + 1) (nI (6 * t) + 1).toNatClampNeg)]) (bs := [.inr (.inr (8, x + 1)), .inl (haI (CU H K V W) (b + 1) (nI (6 * t) + 1).toNatClampNeg)]) (by rw [law_sc hk hk1 hL hi (c := 1) rfl (by decide : 1 < 6)]) (hm _ (fun h2 hI => ?_))
  exact ⟨fun _ => nxt _ _ _ hI (by omega) (by omega), fun c => absurd rfl c⟩
theorem lc_leastFallen : Lcase Wm b Ln xs y x t 706 := by
  intro go kn hL hi H K V W I A n cm at' am by' tm rs cu su hcu hsu hmv hR hk nxt
  refine go (cut2 725 1281) 60 706 _ _ _ _ _ ?_
  refine And.intro (law_vi hk.1 hL hi rfl (by decide : 1 < 6)) ?_
  refine And.intro (law_vi hk.1 hL hi rfl (by decide : 2 < 6)) ?_
  refine And.intro (law_vi hk.1 hL hi rfl (by decide : 3 < 6)) ?_
  refine b_leastFallen hmv hR _ (fun v h1 hm => ?_)
  refine kn 725 _ _ _ _ _ rfl (fun hk1 => ?_)
  refine go (cut2 1281 1281) 60 725 _ _ _ _ _ ?_
  refine And.intro (law_vi hk1.1 hL hi rfl (by decide : 1 < 6)) ?_
  refine And.intro (law_vi hk1.1 hL hi rfl (by decide : 2 < 6)) ?_
  refine And.intro (law_vi hk1.1 hL hi rfl (by decide : 3 < 6)) ?_
  refine law_ar (as := [.inr (.inr (8, x + 1)), .inl (haI h1 (b + 1) (nI (6 * t) + 1).toNatClampNeg), .inl (haI h1 (b + 1) (nI (6 * t) + 2).toNatClampNeg), .inl (haI h1 (b + 1) (nI (6 * t) + 3).toNatClampNeg)]) (bs := [.inr (.inr (8, x + 1)), .inl (haI (CU H K V W) (b + 1) (nI (6 * t) + 1).toNatClampNeg), .inl (haI (CU H K V W) (b + 1) (nI (6 * t) + 2).toNatClampNeg), .inl (haI (CU H K V W) (b + 1) (nI (6 * t) + 3).toNatClampNeg)]) (by rw [law_sc hk hk1 hL hi (c := 1) rfl (by decide : 1 < 6), law_sc hk hk1 hL hi (c := 2) rfl (by decide : 2 < 6), law_sc hk hk1 hL hi (c := 3) rfl (by decide : 3 < 6)]) (hm _ (fun h2 hI => ?_))
  exact ⟨fun _ => nxt _ _ _ hI (by omega) (by omega), fun c => absurd rfl c⟩
theorem lc_must : Lcase Wm b Ln xs y x t 749 := by
  intro go kn hL hi H K V W I A n cm at' am by' tm rs cu su hcu hsu hmv hR hk nxt
  refine go (cut2 753 1281) 60 749 _ _ _ _ _ ?_
  refine b_must hmv hR _ (fun v h1 hm => ?_)
  refine kn 753 _ _ _ _ _ rfl (fun hk1 => ?_)
  refine go (cut2 1281 1281) 60 753 _ _ _ _ _ ?_
  refine law_ar (as := [.inr (.inr (8, x + 1))]) (bs := [.inr (.inr (8, x + 1))]) (rfl) (hm _ (fun h2 hI => ?_))
  exact ⟨fun _ => nxt _ _ _ hI (by omega) (by omega), fun c => absurd rfl c⟩
theorem lc_writings : Lcase Wm b Ln xs y x t 762 := by
  intro go kn hL hi H K V W I A n cm at' am by' tm rs cu su hcu hsu hmv hR hk nxt
  refine go (cut2 786 1281) 60 762 _ _ _ _ _ ?_
  refine And.intro (law_vi hk.1 hL hi rfl (by decide : 1 < 6)) ?_
  refine And.intro (law_vi hk.1 hL hi rfl (by decide : 2 < 6)) ?_
  refine And.intro (law_vi hk.1 hL hi rfl (by decide : 3 < 6)) ?_
  refine And.intro (law_vi hk.1 hL hi rfl (by decide : 4 < 6)) ?_
  refine b_writings hmv hR _ (fun v h1 hm => ?_)
  refine kn 786 _ _ _ _ _ rfl (fun hk1 => ?_)
  refine go (cut2 1281 1281) 60 786 _ _ _ _ _ ?_
  refine And.intro (law_vi hk1.1 hL hi rfl (by decide : 1 < 6)) ?_
  refine And.intro (law_vi hk1.1 hL hi rfl (by decide : 2 < 6)) ?_
  refine And.intro (law_vi hk1.1 hL hi rfl (by decide : 3 < 6)) ?_
  refine And.intro (law_vi hk1.1 hL hi rfl (by decide : 4 < 6)) ?_
  refine law_ar (as := [.inr (.inr (8, x + 1)), .inl (haI h1 (b + 1) (nI (6 * t) + 1).toNatClampNeg), .inl (haI h1 (b + 1) (nI (6 * t) + 2).toNatClampNeg), .inl (haI h1 (b + 1) (nI (6 * t) + 3).toNatClampNeg), .inl (haI h1 (b + 1) (nI (6 * t) + 4).toNatClampNeg)]) (bs := [.inr (.inr (8, x + 1)), .inl (haI (CU H K V W) (b + 1) (nI (6 * t) + 1).toNatClampNeg), .inl (haI (CU H K V W) (b + 1) (nI (6 * t) + 2).toNatClampNeg), .inl (haI (CU H K V W) (b + 1) (nI (6 * t) + 3).toNatClampNeg), .inl (haI (CU H K V W) (b + 1) (nI (6 * t) + 4).toNatClampNeg)]) (by rw [law_sc hk hk1 hL hi (c := 1) rfl (by decide : 1 < 6), law_sc hk hk1 hL hi (c := 2) rfl (by decide : 2 < 6), law_sc hk hk1 hL hi (c := 3) rfl (by decide : 3 < 6), law_sc hk hk1 hL hi (c := 4) rfl (by decide : 4 < 6)]) (hm _ (fun h2 hI => ?_))
  exact ⟨fun _ => nxt _ _ _ hI (by omega) (by omega), fun c => absurd rfl c⟩
theorem lc_from : Lcase Wm b Ln xs y x t 815 := by
  intro go kn hL hi H K V W I A n cm at' am by' tm rs cu su hcu hsu hmv hR hk nxt
  refine go (cut2 834 1281) 60 815 _ _ _ _ _ ?_
  refine And.intro (law_vi hk.1 hL hi rfl (by decide : 1 < 6)) ?_
  refine And.intro (law_vi hk.1 hL hi rfl (by decide : 2 < 6)) ?_
  refine And.intro (law_vi hk.1 hL hi rfl (by decide : 3 < 6)) ?_
  refine b_from hmv hR _ (fun v h1 hm => ?_)
  refine kn 834 _ _ _ _ _ rfl (fun hk1 => ?_)
  refine go (cut2 1281 1281) 60 834 _ _ _ _ _ ?_
  refine And.intro (law_vi hk1.1 hL hi rfl (by decide : 1 < 6)) ?_
  refine And.intro (law_vi hk1.1 hL hi rfl (by decide : 2 < 6)) ?_
  refine And.intro (law_vi hk1.1 hL hi rfl (by decide : 3 < 6)) ?_
  refine law_ar (as := [.inr (.inr (8, x + 1)), .inl (haI h1 (b + 1) (nI (6 * t) + 1).toNatClampNeg), .inl (haI h1 (b + 1) (nI (6 * t) + 2).toNatClampNeg), .inl (haI h1 (b + 1) (nI (6 * t) + 3).toNatClampNeg)]) (bs := [.inr (.inr (8, x + 1)), .inl (haI (CU H K V W) (b + 1) (nI (6 * t) + 1).toNatClampNeg), .inl (haI (CU H K V W) (b + 1) (nI (6 * t) + 2).toNatClampNeg), .inl (haI (CU H K V W) (b + 1) (nI (6 * t) + 3).toNatClampNeg)]) (by rw [law_sc hk hk1 hL hi (c := 1) rfl (by decide : 1 < 6), law_sc hk hk1 hL hi (c := 2) rfl (by decide : 2 < 6), law_sc hk hk1 hL hi (c := 3) rfl (by decide : 3 < 6)]) (hm _ (fun h2 hI => ?_))
  exact ⟨fun _ => nxt _ _ _ hI (by omega) (by omega), fun c => absurd rfl c⟩
theorem lc_who : Lcase Wm b Ln xs y x t 858 := by
  intro go kn hL hi H K V W I A n cm at' am by' tm rs cu su hcu hsu hmv hR hk nxt
  refine go (cut2 882 1281) 60 858 _ _ _ _ _ ?_
  refine And.intro (law_vi hk.1 hL hi rfl (by decide : 1 < 6)) ?_
  refine And.intro (law_vi hk.1 hL hi rfl (by decide : 2 < 6)) ?_
  refine And.intro (law_vi hk.1 hL hi rfl (by decide : 3 < 6)) ?_
  refine And.intro (law_vi hk.1 hL hi rfl (by decide : 4 < 6)) ?_
  refine b_who hmv hR _ (fun v h1 hm => ?_)
  refine kn 882 _ _ _ _ _ rfl (fun hk1 => ?_)
  refine go (cut2 1281 1281) 60 882 _ _ _ _ _ ?_
  refine And.intro (law_vi hk1.1 hL hi rfl (by decide : 1 < 6)) ?_
  refine And.intro (law_vi hk1.1 hL hi rfl (by decide : 2 < 6)) ?_
  refine And.intro (law_vi hk1.1 hL hi rfl (by decide : 3 < 6)) ?_
  refine And.intro (law_vi hk1.1 hL hi rfl (by decide : 4 < 6)) ?_
  refine law_ar (as := [.inr (.inr (8, x + 1)), .inl (haI h1 (b + 1) (nI (6 * t) + 1).toNatClampNeg), .inl (haI h1 (b + 1) (nI (6 * t) + 2).toNatClampNeg), .inl (haI h1 (b + 1) (nI (6 * t) + 3).toNatClampNeg), .inl (haI h1 (b + 1) (nI (6 * t) + 4).toNatClampNeg)]) (bs := [.inr (.inr (8, x + 1)), .inl (haI (CU H K V W) (b + 1) (nI (6 * t) + 1).toNatClampNeg), .inl (haI (CU H K V W) (b + 1) (nI (6 * t) + 2).toNatClampNeg), .inl (haI (CU H K V W) (b + 1) (nI (6 * t) + 3).toNatClampNeg), .inl (haI (CU H K V W) (b + 1) (nI (6 * t) + 4).toNatClampNeg)]) (by rw [law_sc hk hk1 hL hi (c := 1) rfl (by decide : 1 < 6), law_sc hk hk1 hL hi (c := 2) rfl (by decide : 2 < 6), law_sc hk hk1 hL hi (c := 3) rfl (by decide : 3 < 6), law_sc hk hk1 hL hi (c := 4) rfl (by decide : 4 < 6)]) (hm _ (fun h2 hI => ?_))
  exact ⟨fun _ => nxt _ _ _ hI (by omega) (by omega), fun c => absurd rfl c⟩
theorem lc_layer : Lcase Wm b Ln xs y x t 911 := by
  intro go kn hL hi H K V W I A n cm at' am by' tm rs cu su hcu hsu hmv hR hk nxt
  refine go (cut2 920 1281) 60 911 _ _ _ _ _ ?_
  refine And.intro (law_vi hk.1 hL hi rfl (by decide : 1 < 6)) ?_
  refine b_layer hmv hR _ (fun v h1 hm => ?_)
  refine kn 920 _ _ _ _ _ rfl (fun hk1 => ?_)
  refine go (cut2 1281 1281) 60 920 _ _ _ _ _ ?_
  refine And.intro (law_vi hk1.1 hL hi rfl (by decide : 1 < 6)) ?_
  refine law_ar (as := [.inr (.inr (8, x + 1)), .inl (haI h1 (b + 1) (nI (6 * t) + 1).toNatClampNeg)]) (bs := [.inr (.inr (8, x + 1)), .inl (haI (CU H K V W) (b + 1) (nI (6 * t) + 1).toNatClampNeg)]) (by rw [law_sc hk hk1 hL hi (c := 1) rfl (by decide : 1 < 6)]) (hm _ (fun h2 hI => ?_))
  exact ⟨fun _ => nxt _ _ _ hI (by omega) (by omega), fun c => absurd rfl c⟩
theorem lc_longest : Lcase Wm b Ln xs y x t 934 := by
  intro go kn hL hi H K V W I A n cm at' am by' tm rs cu su hcu hsu hmv hR hk nxt
  refine go (cut2 948 1281) 60 934 _ _ _ _ _ ?_
  refine And.intro (law_vi hk.1 hL hi rfl (by decide : 1 < 6)) ?_
  refine And.intro (law_vi hk.1 hL hi rfl (by decide : 2 < 6)) ?_
  refine b_longest hmv hR _ (fun v h1 hm => ?_)
  refine kn 948 _ _ _ _ _ rfl (fun hk1 => ?_)
  refine go (cut2 1281 1281) 60 948 _ _ _ _ _ ?_
  refine And.intro (law_vi hk1.1 hL hi rfl (by decide : 1 < 6)) ?_
  refine And.intro (law_vi hk1.1 hL hi rfl (by decide : 2 < 6)) ?_
  refine law_ar (as := [.inr (.inr (8, x + 1)), .inl (haI h1 (b + 1) (nI (6 * t) + 1).toNatClampNeg), .inl (haI h1 (b + 1) (nI (6 * t) + 2).toNatClampNeg)]) (bs := [.inr (.inr (8, x + 1)), .inl (haI (CU H K V W) (b + 1) (nI (6 * t) + 1).toNatClampNeg), .inl (haI (CU H K V W) (b + 1) (nI (6 * t) + 2).toNatClampNeg)]) (by rw [law_sc hk hk1 hL hi (c := 1) rfl (by decide : 1 < 6), law_sc hk hk1 hL hi (c := 2) rfl (by decide : 2 < 6)]) (hm _ (fun h2 hI => ?_))
  exact ⟨fun _ => nxt _ _ _ hI (by omega) (by omega), fun c => absurd rfl c⟩
theorem lc_rains : Lcase Wm b Ln xs y x t 967 := by
  intro go kn hL hi H K V W I A n cm at' am by' tm rs cu su hcu hsu hmv hR hk nxt
  refine go (cut2 986 1281) 60 967 _ _ _ _ _ ?_
  refine And.intro (law_vi hk.1 hL hi rfl (by decide : 1 < 6)) ?_
  refine And.intro (law_vi hk.1 hL hi rfl (by decide : 2 < 6)) ?_
  refine And.intro (law_vi hk.1 hL hi rfl (by decide : 3 < 6)) ?_
  refine b_rains hmv hR _ (fun v h1 hm => ?_)
  refine kn 986 _ _ _ _ _ rfl (fun hk1 => ?_)
  refine go (cut2 1281 1281) 60 986 _ _ _ _ _ ?_
  refine And.intro (law_vi hk1.1 hL hi rfl (by decide : 1 < 6)) ?_
  refine And.intro (law_vi hk1.1 hL hi rfl (by decide : 2 < 6)) ?_
  refine And.intro (law_vi hk1.1 hL hi rfl (by decide : 3 < 6)) ?_
  refine law_ar (as := [.inr (.inr (8, x + 1)), .inl (haI h1 (b + 1) (nI (6 * t) + 1).toNatClampNeg), .inl (haI h1 (b + 1) (nI (6 * t) + 2).toNatClampNeg), .inl (haI h1 (b + 1) (nI (6 * t) + 3).toNatClampNeg)]) (bs := [.inr (.inr (8, x + 1)), .inl (haI (CU H K V W) (b + 1) (nI (6 * t) + 1).toNatClampNeg), .inl (haI (CU H K V W) (b + 1) (nI (6 * t) + 2).toNatClampNeg), .inl (haI (CU H K V W) (b + 1) (nI (6 * t) + 3).toNatClampNeg)]) (by rw [law_sc hk hk1 hL hi (c := 1) rfl (by decide : 1 < 6), law_sc hk hk1 hL hi (c := 2) rfl (by decide : 2 < 6), law_sc hk hk1 hL hi (c := 3) rfl (by decide : 3 < 6)]) (hm _ (fun h2 hI => ?_))
  exact ⟨fun _ => nxt _ _ _ hI (by omega) (by omega), fun c => absurd (lg_cmp_self v) c⟩
theorem lc_share : Lcase Wm b Ln xs y x t 1011 := by
  intro go kn hL hi H K V W I A n cm at' am by' tm rs cu su hcu hsu hmv hR hk nxt
  refine go (cut2 1025 1281) 60 1011 _ _ _ _ _ ?_
  refine And.intro (law_vi hk.1 hL hi rfl (by decide : 1 < 6)) ?_
  refine And.intro (law_vi hk.1 hL hi rfl (by decide : 2 < 6)) ?_
  refine b_share (by omega) hmv hR _ (fun v h1 hm => ?_)
  refine kn 1025 _ _ _ _ _ rfl (fun hk1 => ?_)
  refine go (cut2 1281 1281) 60 1025 _ _ _ _ _ ?_
  refine And.intro (law_vi hk1.1 hL hi rfl (by decide : 1 < 6)) ?_
  refine And.intro (law_vi hk1.1 hL hi rfl (by decide : 2 < 6)) ?_
  refine law_ar (as := [.inr (.inr (8, x + 1)), .inl (haI h1 (b + 1) (nI (6 * t) + 1).toNatClampNeg), .inl (haI h1 (b + 1) (nI (6 * t) + 2).toNatClampNeg)]) (bs := [.inr (.inr (8, x + 1)), .inl (haI (CU H K V W) (b + 1) (nI (6 * t) + 1).toNatClampNeg), .inl (haI (CU H K V W) (b + 1) (nI (6 * t) + 2).toNatClampNeg)]) (by rw [law_sc hk hk1 hL hi (c := 1) rfl (by decide : 1 < 6), law_sc hk hk1 hL hi (c := 2) rfl (by decide : 2 < 6)]) (hm _ (fun h2 hI => ?_))
  exact ⟨fun _ => nxt _ _ _ hI (by omega) (by omega), fun c => absurd rfl c⟩
theorem lc_drawn : Lcase Wm b Ln xs y x t 1044 := by
  intro go kn hL hi H K V W I A n cm at' am by' tm rs cu su hcu hsu hmv hR hk nxt
  refine go (cut2 1063 1281) 60 1044 _ _ _ _ _ ?_
  refine And.intro (law_vi hk.1 hL hi rfl (by decide : 1 < 6)) ?_
  refine And.intro (law_vi hk.1 hL hi rfl (by decide : 2 < 6)) ?_
  refine And.intro (law_vi hk.1 hL hi rfl (by decide : 3 < 6)) ?_
  refine b_drawn hmv hR _ (fun v h1 hm => ?_)
  refine kn 1063 _ _ _ _ _ rfl (fun hk1 => ?_)
  refine go (cut2 1281 1281) 60 1063 _ _ _ _ _ ?_
  refine And.intro (law_vi hk1.1 hL hi rfl (by decide : 1 < 6)) ?_
  refine And.intro (law_vi hk1.1 hL hi rfl (by decide : 2 < 6)) ?_
  refine And.intro (law_vi hk1.1 hL hi rfl (by decide : 3 < 6)) ?_
  refine law_ar (as := [.inr (.inr (8, x + 1)), .inl (haI h1 (b + 1) (nI (6 * t) + 1).toNatClampNeg), .inl (haI h1 (b + 1) (nI (6 * t) + 2).toNatClampNeg), .inl (haI h1 (b + 1) (nI (6 * t) + 3).toNatClampNeg)]) (bs := [.inr (.inr (8, x + 1)), .inl (haI (CU H K V W) (b + 1) (nI (6 * t) + 1).toNatClampNeg), .inl (haI (CU H K V W) (b + 1) (nI (6 * t) + 2).toNatClampNeg), .inl (haI (CU H K V W) (b + 1) (nI (6 * t) + 3).toNatClampNeg)]) (by rw [law_sc hk hk1 hL hi (c := 1) rfl (by decide : 1 < 6), law_sc hk hk1 hL hi (c := 2) rfl (by decide : 2 < 6), law_sc hk hk1 hL hi (c := 3) rfl (by decide : 3 < 6)]) (hm _ (fun h2 hI => ?_))
  exact ⟨fun _ => nxt _ _ _ hI (by omega) (by omega), fun c => absurd rfl c⟩
theorem lc_image : Lcase Wm b Ln xs y x t 1087 := by
  intro go kn hL hi H K V W I A n cm at' am by' tm rs cu su hcu hsu hmv hR hk nxt
  refine go (cut2 1096 1281) 60 1087 _ _ _ _ _ ?_
  refine And.intro (law_vi hk.1 hL hi rfl (by decide : 1 < 6)) ?_
  refine b_image hmv hR _ (fun v h1 hm => ?_)
  refine kn 1096 _ _ _ _ _ rfl (fun hk1 => ?_)
  refine go (cut2 1281 1281) 60 1096 _ _ _ _ _ ?_
  refine And.intro (law_vi hk1.1 hL hi rfl (by decide : 1 < 6)) ?_
  refine law_ar (as := [.inr (.inr (8, x + 1)), .inl (haI h1 (b + 1) (nI (6 * t) + 1).toNatClampNeg)]) (bs := [.inr (.inr (8, x + 1)), .inl (haI (CU H K V W) (b + 1) (nI (6 * t) + 1).toNatClampNeg)]) (by rw [law_sc hk hk1 hL hi (c := 1) rfl (by decide : 1 < 6)]) (hm _ (fun h2 hI => ?_))
  exact ⟨fun _ => nxt _ _ _ hI (by omega) (by omega), fun c => absurd rfl c⟩
theorem lc_restore : Lcase Wm b Ln xs y x t 1110 := by
  intro go kn hL hi H K V W I A n cm at' am by' tm rs cu su hcu hsu hmv hR hk nxt
  refine go (cut2 1119 1281) 60 1110 _ _ _ _ _ ?_
  refine And.intro (law_vi hk.1 hL hi rfl (by decide : 1 < 6)) ?_
  refine b_restore hmv hR _ (fun v h1 hm => ?_)
  refine kn 1119 _ _ _ _ _ rfl (fun hk1 => ?_)
  refine go (cut2 1281 1281) 60 1119 _ _ _ _ _ ?_
  refine And.intro (law_vi hk1.1 hL hi rfl (by decide : 1 < 6)) ?_
  refine law_ar (as := [.inr (.inr (8, x + 1)), .inl (haI h1 (b + 1) (nI (6 * t) + 1).toNatClampNeg)]) (bs := [.inr (.inr (8, x + 1)), .inl (haI (CU H K V W) (b + 1) (nI (6 * t) + 1).toNatClampNeg)]) (by rw [law_sc hk hk1 hL hi (c := 1) rfl (by decide : 1 < 6)]) (hm _ (fun h2 hI => ?_))
  exact ⟨fun _ => nxt _ _ _ hI (by omega) (by omega), fun c => absurd rfl c⟩
theorem lc_kind : Lcase Wm b Ln xs y x t 1133 := by
  intro go kn hL hi H K V W I A n cm at' am by' tm rs cu su hcu hsu hmv hR hk nxt
  refine go (cut2 1142 1281) 60 1133 _ _ _ _ _ ?_
  refine And.intro (law_vi hk.1 hL hi rfl (by decide : 1 < 6)) ?_
  refine b_kind hmv hR _ (fun v h1 hm => ?_)
  refine kn 1142 _ _ _ _ _ rfl (fun hk1 => ?_)
  refine go (cut2 1281 1281) 60 1142 _ _ _ _ _ ?_
  refine And.intro (law_vi hk1.1 hL hi rfl (by decide : 1 < 6)) ?_
  refine law_ar (as := [.inr (.inr (8, x + 1)), .inl (haI h1 (b + 1) (nI (6 * t) + 1).toNatClampNeg)]) (bs := [.inr (.inr (8, x + 1)), .inl (haI (CU H K V W) (b + 1) (nI (6 * t) + 1).toNatClampNeg)]) (by rw [law_sc hk hk1 hL hi (c := 1) rfl (by decide : 1 < 6)]) (hm _ (fun h2 hI => ?_))
  exact ⟨fun _ => nxt _ _ _ hI (by omega) (by omega), fun c => absurd rfl c⟩
theorem lc_as : Lcase Wm b Ln xs y x t 1156 := by
  intro go kn hL hi H K V W I A n cm at' am by' tm rs cu su hcu hsu hmv hR hk nxt
  refine go (cut2 1170 1281) 60 1156 _ _ _ _ _ ?_
  refine And.intro (law_vi hk.1 hL hi rfl (by decide : 1 < 6)) ?_
  refine And.intro (law_vi hk.1 hL hi rfl (by decide : 2 < 6)) ?_
  refine b_as hmv hR _ (fun v h1 hm => ?_)
  refine kn 1170 _ _ _ _ _ rfl (fun hk1 => ?_)
  refine go (cut2 1281 1281) 60 1170 _ _ _ _ _ ?_
  refine And.intro (law_vi hk1.1 hL hi rfl (by decide : 1 < 6)) ?_
  refine And.intro (law_vi hk1.1 hL hi rfl (by decide : 2 < 6)) ?_
  refine law_ar (as := [.inr (.inr (8, x + 1)), .inl (haI h1 (b + 1) (nI (6 * t) + 1).toNatClampNeg), .inl (haI h1 (b + 1) (nI (6 * t) + 2).toNatClampNeg)]) (bs := [.inr (.inr (8, x + 1)), .inl (haI (CU H K V W) (b + 1) (nI (6 * t) + 1).toNatClampNeg), .inl (haI (CU H K V W) (b + 1) (nI (6 * t) + 2).toNatClampNeg)]) (by rw [law_sc hk hk1 hL hi (c := 1) rfl (by decide : 1 < 6), law_sc hk hk1 hL hi (c := 2) rfl (by decide : 2 < 6)]) (hm _ (fun h2 hI => ?_))
  exact ⟨fun _ => nxt _ _ _ hI (by omega) (by omega), fun c => absurd rfl c⟩
theorem lc_ask : Lcase Wm b Ln xs y x t 1189 := by
  intro go kn hL hi H K V W I A n cm at' am by' tm rs cu su hcu hsu hmv hR hk nxt
  refine go (cut2 1203 1281) 60 1189 _ _ _ _ _ ?_
  refine And.intro (law_vi hk.1 hL hi rfl (by decide : 1 < 6)) ?_
  refine And.intro (law_vi hk.1 hL hi rfl (by decide : 2 < 6)) ?_
  refine b_ask hmv hR _ (fun v h1 hm => ?_)
  refine kn 1203 _ _ _ _ _ rfl (fun hk1 => ?_)
  refine go (cut2 1281 1281) 60 1203 _ _ _ _ _ ?_
  refine And.intro (law_vi hk1.1 hL hi rfl (by decide : 1 < 6)) ?_
  refine And.intro (law_vi hk1.1 hL hi rfl (by decide : 2 < 6)) ?_
  refine law_ar (as := [.inr (.inr (8, x + 1)), .inl (haI h1 (b + 1) (nI (6 * t) + 1).toNatClampNeg), .inl (haI h1 (b + 1) (nI (6 * t) + 2).toNatClampNeg)]) (bs := [.inr (.inr (8, x + 1)), .inl (haI (CU H K V W) (b + 1) (nI (6 * t) + 1).toNatClampNeg), .inl (haI (CU H K V W) (b + 1) (nI (6 * t) + 2).toNatClampNeg)]) (by rw [law_sc hk hk1 hL hi (c := 1) rfl (by decide : 1 < 6), law_sc hk hk1 hL hi (c := 2) rfl (by decide : 2 < 6)]) (hm _ (fun h2 hI => ?_))
  exact ⟨fun _ => nxt _ _ _ hI (by omega) (by omega), fun c => absurd rfl c⟩
theorem lc_trace : Lcase Wm b Ln xs y x t 1222 := by
  intro go kn hL hi H K V W I A n cm at' am by' tm rs cu su hcu hsu hmv hR hk nxt
  refine go (cut2 1231 1281) 60 1222 _ _ _ _ _ ?_
  refine And.intro (law_vi hk.1 hL hi rfl (by decide : 1 < 6)) ?_
  refine b_trace hmv hR _ (fun v h1 hm => ?_)
  refine kn 1231 _ _ _ _ _ rfl (fun hk1 => ?_)
  refine go (cut2 1281 1281) 60 1231 _ _ _ _ _ ?_
  refine And.intro (law_vi hk1.1 hL hi rfl (by decide : 1 < 6)) ?_
  refine law_ar (as := [.inr (.inr (8, x + 1)), .inl (haI h1 (b + 1) (nI (6 * t) + 1).toNatClampNeg)]) (bs := [.inr (.inr (8, x + 1)), .inl (haI (CU H K V W) (b + 1) (nI (6 * t) + 1).toNatClampNeg)]) (by rw [law_sc hk hk1 hL hi (c := 1) rfl (by decide : 1 < 6)]) (hm _ (fun h2 hI => ?_))
  exact ⟨fun _ => nxt _ _ _ hI (by omega) (by omega), fun c => absurd rfl c⟩
theorem lc_count : Lcase Wm b Ln xs y x t 1245 := by
  intro go kn hL hi H K V W I A n cm at' am by' tm rs cu su hcu hsu hmv hR hk nxt
  refine go (cut2 1254 1281) 60 1245 _ _ _ _ _ ?_
  refine And.intro (law_vi hk.1 hL hi rfl (by decide : 1 < 6)) ?_
  refine b_count hmv hR _ (fun v h1 hm => ?_)
  refine kn 1254 _ _ _ _ _ rfl (fun hk1 => ?_)
  refine go (cut2 1281 1281) 60 1254 _ _ _ _ _ ?_
  refine And.intro (law_vi hk1.1 hL hi rfl (by decide : 1 < 6)) ?_
  refine law_ar (as := [.inr (.inr (8, x + 1)), .inl (haI h1 (b + 1) (nI (6 * t) + 1).toNatClampNeg)]) (bs := [.inr (.inr (8, x + 1)), .inl (haI (CU H K V W) (b + 1) (nI (6 * t) + 1).toNatClampNeg)]) (by rw [law_sc hk hk1 hL hi (c := 1) rfl (by decide : 1 < 6)]) (hm _ (fun h2 hI => ?_))
  exact ⟨fun _ => nxt _ _ _ hI (by omega) (by omega), fun c => absurd rfl c⟩
theorem lc_status : Lcase Wm b Ln xs y x t 1268 := by
  intro go kn hL hi H K V W I A n cm at' am by' tm rs cu su hcu hsu hmv hR hk nxt
  refine go (cut2 1272 1281) 60 1268 _ _ _ _ _ ?_
  refine b_status hmv hR _ (fun v h1 hm => ?_)
  refine kn 1272 _ _ _ _ _ rfl (fun hk1 => ?_)
  refine go (cut2 1281 1281) 60 1272 _ _ _ _ _ ?_
  refine law_ar (as := [.inr (.inr (8, x + 1))]) (bs := [.inr (.inr (8, x + 1))]) (rfl) (hm _ (fun h2 hI => ?_))
  exact ⟨fun _ => nxt _ _ _ hI (by omega) (by omega), fun c => absurd rfl c⟩
end LC
