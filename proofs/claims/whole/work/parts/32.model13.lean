/-! ===== the reference: a castle ===== -/
abbrev caI (I : Nat → Int32) (v w : Int32) (S : PS) : Nat → Int32 := upd (upd (upd (upd (upd (upd (upd I 704 0) 707 (nI S.2.1)) 708 (nI S.2.2.1)) 709 (nI S.2.2.2.1)) 710 v) 711 w) 727 0
def ECa (A A' : Nat → Nat → Int32) (S : PS) : Prop := (∀ f, (f < 712 ∨ 715 < f) → (f < 722 ∨ 726 < f) → A' f = A f) ∧ (∀ j, j < 14 → A' 715 j = if j < S.2.1 then S.2.2.2.2.1 j else 0) ∧ (∀ j, j < 8 → A' 712 j = if j < S.2.1 then S.2.2.2.2.2.1 j else 0) ∧ (∀ c, c < S.2.2.2.1 → A' 713 c = S.2.2.2.2.2.2.2 c ∧ A' 714 c = S.2.2.2.2.2.2.1 c)
section M14
variable {d x B : Nat} {h : hp} {I : Nat → Int32} {A : Nat → Nat → Int32} {kk : Rt}
theorem EI.w {I I' : Nat → Int32} (h : EI I I') (k : Nat) (v : Int32) : EI (upd I k v) (upd I' k v) := by
  intro j hj
  unfold upd
  by_cases c : j = k
  · rw [if_pos c, if_pos c]
  · rw [if_neg c, if_neg c]; exact h j hj
set_option maxRecDepth 20000 in
theorem m_castle (hS : MSh h (x + 1)) (hB : I 704 = nI B) (h120 : B ≤ 120) (hf : ∀ f q I' A', parR (A 705) B = .inl (f, q) → EI (upd (upd I 704 0) 706 f) I' → ER A A' → kk (some (.inl (-1000100 - nI q))) (MU h (x + 1) I' A')) (hg : ∀ v w S I' A', parR (A 705) B = .inr (v, w, S) → EI (caI I v w S) I' → ECa A A' S → S.2.1 ≤ 8 → S.2.2.1 ≤ 12 → S.2.2.2.1 ≤ 4 → kk (some (.inl (nI S.2.1))) (MU h (x + 1) I' A')) : CL (d + 7) mX7_castle 0 0 [.inr (.inr (8, x + 1))] (MU h (x + 1) I A) kk := by
  refine mw3 T_X7_castle (fun Wm go wk => go (cut1 5) 60 0 _ _ _ _ _ ?_)
  refine m_reads hS hB h120 (fun f q I' A' z1 z2 z3 z4 z5 => ?_) (fun v w S I' A' z1 z2 => ?_)
  · refine go (cut1 10) 60 5 _ _ _ _ _ ?_
    refine wmc (Wm := Wm) ?_ rfl (MU_wI _ _ _ _ _ _)
    refine go (cut1 22) 60 10 _ _ _ _ _ ?_
    refine br0 ?_
    refine wmc (Wm := Wm) (h' := MU h (x + 1) (upd (upd I' 704 0) 706 f) A') ?_ rfl (by rw [MU_fI, MU_wI]; show MU h (x + 1) (upd _ 706 (I' 718)) A' = _; rw [z4])
    refine go cut0 60 22 _ _ _ _ _ ?_
    refine kki (hf f q _ _ z1 ((z2.w 704 0).w 706 f) z3) ?_ rfl
    rw [MU_fI]
    show (-1000100 : Int32) - I' 717 = _
    rw [z5]
  · obtain ⟨p, nb, nr, nc, ch, on, ki, ha⟩ := S
    obtain ⟨⟨hE, hR, -, -⟩, ⟨e17, pB⟩, ⟨e19, n8⟩, ⟨e20, n12⟩, ⟨e21, n4⟩, hlaw, hbl, hcl⟩ := z2
    dsimp only at e17 pB e19 n8 e20 n12 e21 n4 hbl hcl
    have hg := fun I2 A2 q1 q2 => hg v w _ I2 A2 z1 q1 q2 n8 n12 n4
    refine go (cut1 10) 60 5 _ _ _ _ _ ?_
    refine wmc (Wm := Wm) ?_ rfl (MU_wI _ _ _ _ _ _)
    refine go (cut1 38) 60 10 _ _ _ _ _ ?_
    refine br1 ?_
    refine wmc (Wm := Wm) (h' := MU h (x + 1) (upd (upd I' 704 0) 707 (nI nb)) A') ?_ rfl (by rw [MU_fI, MU_wI]; show MU h (x + 1) (upd _ 707 (I' 719)) A' = _; rw [e19])
    refine go (cut1 46) 60 38 _ _ _ _ _ ?_
    refine wmc (Wm := Wm) (h' := MU h (x + 1) (upd (upd (upd I' 704 0) 707 (nI nb)) 708 (nI nr)) A') ?_ rfl (by rw [MU_fI, MU_wI]; show MU h (x + 1) (upd _ 708 (I' 720)) A' = _; rw [e20])
    refine go (cut1 54) 60 46 _ _ _ _ _ ?_
    refine wmc (Wm := Wm) (h' := MU h (x + 1) (upd (upd (upd (upd I' 704 0) 707 (nI nb)) 708 (nI nr)) 709 (nI nc)) A') ?_ rfl (by rw [MU_fI, MU_wI]; show MU h (x + 1) (upd _ 709 (I' 721)) A' = _; rw [e21])
    refine go (cut1 64) 60 54 _ _ _ _ _ ?_
    refine mldk (f := 722) hS (by decide) 0 rfl (by decide) ?_
    refine wmc (Wm := Wm) (h' := MU h (x + 1) (upd (upd (upd (upd (upd I' 704 0) 707 (nI nb)) 708 (nI nr)) 709 (nI nc)) 710 v) A') ?_ rfl (by rw [MU_wI, hlaw.1])
    refine go (cut1 74) 60 64 _ _ _ _ _ ?_
    refine mldk (f := 722) hS (by decide) 1 rfl (by decide) ?_
    refine wmc (Wm := Wm) (h' := MU h (x + 1) (upd (upd (upd (upd (upd (upd I' 704 0) 707 (nI nb)) 708 (nI nr)) 709 (nI nc)) 710 v) 711 w) A') ?_ rfl (by rw [MU_wI, hlaw.2])
    have hE2 : EI (upd (upd (upd (upd (upd (upd I 704 0) 707 (nI nb)) 708 (nI nr)) 709 (nI nc)) 710 v) 711 w) (upd (upd (upd (upd (upd (upd I' 704 0) 707 (nI nb)) 708 (nI nr)) 709 (nI nc)) 710 v) 711 w) := (((((hE.w 704 0).w 707 _).w 708 _).w 709 _).w 710 _).w 711 _
    have j7 : (upd (upd (upd (upd (upd (upd I' 704 0) 707 (nI nb)) 708 (nI nr)) 709 (nI nc)) 710 v) 711 w) 707 = nI nb := rfl
    have j9 : (upd (upd (upd (upd (upd (upd I' 704 0) 707 (nI nb)) 708 (nI nr)) 709 (nI nc)) 710 v) 711 w) 709 = nI nc := rfl
    generalize upd (upd (upd (upd (upd (upd I' 704 0) 707 (nI nb)) 708 (nI nr)) 709 (nI nc)) 710 v) 711 w = J at *
    have L3 : ∀ C, ((∀ f, (f < 712 ∨ 715 < f) → C f = A' f) ∧ (∀ j, j < 14 → C 715 j = if j < nb then ch j else 0) ∧ (∀ j, j < 8 → C 712 j = if j < nb then on j else 0)) → Wm 159 [some (.inr (.inr (8, x + 1))), some (.inl 1), some (.inl (nI 0))] [] (MU h (x + 1) J C) 0 0 := by
      intro C hC
      refine upto (n := nc) (P := fun k => ∀ C, ((∀ f, (f < 712 ∨ 715 < f) → C f = A' f) ∧ (∀ j, j < 14 → C 715 j = if j < nb then ch j else 0) ∧ (∀ j, j < 8 → C 712 j = if j < nb then on j else 0) ∧ ∀ c, c < k → C 713 c = ha c ∧ C 714 c = ki c) → Wm 159 [some (.inr (.inr (8, x + 1))), some (.inl 1), some (.inl (nI k))] [] (MU h (x + 1) J C) 0 0) (fun k hkn ih C hC => ?_) 0 (Nat.zero_le _) C ⟨hC.1, hC.2.1, hC.2.2, fun c hc => absurd hc (Nat.not_lt_zero c)⟩
      have i7 : hfI (MU h (x + 1) J C) 707 (x + 1) = nI nb := (MU_fI _ _ _ _ _).trans j7
      refine go (cut2 159 202) 60 159 _ _ _ _ _ ?_
      refine icg rfl ((MU_fI _ _ _ _ _).trans j9) (by omega) (by omega) (fun c => ?_) (fun c => ?_)
      · have e : k = nc := by omega
        subst e
        refine wmc (Wm := Wm) ?_ rfl (MU_wI _ _ _ _ _ _)
        refine go cut0 60 202 _ _ _ _ _ ?_
        refine kki (hg _ _ (hE2.w 727 0) ⟨fun f q1 q2 => (hC.1 f q1).trans (hR f q2), hC.2.1, hC.2.2.1, hC.2.2.2⟩) ?_ rfl
        rw [MU_fI]
        exact j7
      · refine mldk (f := 725) hS (by decide) k rfl (by show k < 4; omega) ?_
        refine mstk (f := 713) hS (by decide) k rfl (by show k < 4; omega) ?_
        refine mldk (f := 726) hS (by decide) k rfl (by show k < 4; omega) ?_
        refine mstk (f := 714) hS (by decide) k rfl (by show k < 4; omega) ?_
        have e := ih c (va_up (va_up C 713 (upd (C 713) k (C 725 k))) 714 (upd (C 714) k (C 726 k))) ⟨fun f hf => ?_, hC.2.1, hC.2.2.1, fun j hj => ?_⟩
        · rw [← nI_1] at e
          exact e
        · rw [va_up_ne _ _ (by omega), va_up_ne _ _ (by omega)]
          exact hC.1 f hf
        · show upd (C 713) k (C 725 k) j = ha j ∧ upd (C 714) k (C 726 k) j = ki j
          unfold upd
          by_cases q : j = k
          · rw [if_pos q, if_pos q, hC.1 725 (by omega), hC.1 726 (by omega), q]
            exact ⟨(hcl k c).2, (hcl k c).1⟩
          · rw [if_neg q, if_neg q]
            exact hC.2.2.2 j (by omega)
    have L2 : ∀ C, ((∀ f, (f < 712 ∨ 715 < f) → C f = A' f) ∧ (∀ j, j < 14 → C 715 j = 0)) → Wm 97 [some (.inr (.inr (8, x + 1))), some (.inl 1), some (.inl (nI 0))] [] (MU h (x + 1) J C) 0 0 := by
      intro C hC
      refine upto (n := 8) (P := fun k => ∀ C, ((∀ f, (f < 712 ∨ 715 < f) → C f = A' f) ∧ (∀ j, j < 14 → C 715 j = if j < k ∧ j < nb then ch j else 0) ∧ (∀ j, j < k → C 712 j = if j < nb then on j else 0)) → Wm 97 [some (.inr (.inr (8, x + 1))), some (.inl 1), some (.inl (nI k))] [] (MU h (x + 1) J C) 0 0) (fun k hkn ih C hC => ?_) 0 (Nat.zero_le _) C ⟨hC.1, fun j hj => by rw [if_neg (by omega)]; exact hC.2 j hj, fun c hc => absurd hc (Nat.not_lt_zero c)⟩
      refine go (cut3 97 126 159) 60 97 _ _ _ _ _ ?_
      refine icg rfl (show (8 : Int32) = nI 8 from rfl) (by omega) (by omega) (fun c => ?_) (fun c => ?_)
      · have e : k = 8 := by omega
        subst e
        refine L3 C ⟨hC.1, fun j hj => ?_, hC.2.2⟩
        rw [hC.2.1 j hj]
        by_cases q : j < nb
        · rw [if_pos q, if_pos ⟨by omega, q⟩]
        · rw [if_neg q, if_neg (fun z => q z.2)]
      · have step : ∀ v : Int32, v = (if k < nb then ch k else 0) → Wm 126 [some (.inr (.inr (8, x + 1))), some (.inl 1), some (.inl (nI k))] [.inl v, .inl (nI k), .inr (.inr (20, hfR (MU h (x + 1) J C) 715 (x + 1)))] (MU h (x + 1) J C) 0 0 := by
          intro v hv
          refine go (cut2 97 150) 60 126 _ _ _ _ _ ?_
          refine mstk (f := 715) hS (by decide) k rfl (by show k < 14; omega) ?_
          have step2 : ∀ v2 : Int32, v2 = (if k < nb then on k else 0) → Wm 150 [some (.inr (.inr (8, x + 1))), some (.inl 1), some (.inl (nI k))] [.inl v2, .inl (nI k), .inr (.inr (20, hfR (MU h (x + 1) J C) 712 (x + 1)))] (MU h (x + 1) J (va_up C 715 (upd (C 715) k v))) 0 0 := by
            intro v2 hv2
            refine go (cut1 97) 60 150 _ _ _ _ _ ?_
            refine mstk (f := 712) hS (by decide) k rfl (by show k < 8; omega) ?_
            have e := ih c (va_up (va_up C 715 (upd (C 715) k v)) 712 (upd (C 712) k v2)) ⟨fun f hf => ?_, fun j hj => ?_, fun j hj => ?_⟩
            · rw [← nI_1] at e
              exact e
            · rw [va_up_ne _ _ (by omega), va_up_ne _ _ (by omega)]
              exact hC.1 f hf
            · show upd (C 715) k v j = _
              unfold upd
              by_cases q : j = k
              · rw [if_pos q, hv, q]
                by_cases q2 : k < nb
                · rw [if_pos q2, if_pos ⟨by omega, q2⟩]
                · rw [if_neg q2, if_neg (fun z => q2 z.2)]
              · rw [if_neg q, hC.2.1 j hj]
                by_cases q2 : j < k ∧ j < nb
                · rw [if_pos q2, if_pos ⟨by omega, q2.2⟩]
                · rw [if_neg q2, if_neg (fun z => q2 ⟨by omega, z.2⟩)]
            · show upd (C 712) k v2 j = _
              unfold upd
              by_cases q : j = k
              · rw [if_pos q, hv2, q]
              · rw [if_neg q]
                exact hC.2.2 j (by omega)
          refine icg rfl ((MU_fI _ _ _ _ _).trans j7) (by omega) (by omega) (fun c2 => ?_) (fun c2 => ?_)
          · exact step2 0 (by rw [if_neg (by omega)])
          · refine mldk (f := 724) hS (by decide) k rfl (by show k < 8; omega) ?_
            refine step2 _ ?_
            show C 724 k = _
            rw [if_pos c2, hC.1 724 (by omega)]
            exact (hbl k c2).2
        refine icg rfl ((MU_fI _ _ _ _ _).trans j7) (by omega) (by omega) (fun c2 => ?_) (fun c2 => ?_)
        · exact step 0 (by rw [if_neg (by omega)])
        · refine mldk (f := 723) hS (by decide) k rfl (by show k < 8; omega) ?_
          refine step _ ?_
          rw [if_pos c2, hC.1 723 (by omega)]
          exact (hbl k c2).1
    refine go (cut1 76) 60 74 _ _ _ _ _ ?_
    refine upto (n := 14) (P := fun k => ∀ C, ((∀ f, (f < 712 ∨ 715 < f) → C f = A' f) ∧ (∀ j, j < k → C 715 j = 0)) → Wm 76 [some (.inr (.inr (8, x + 1))), some (.inl 1), some (.inl (nI k))] [] (MU h (x + 1) J C) 0 0) (fun k hkn ih C hC => ?_) 0 (Nat.zero_le _) A' ⟨fun _ _ => rfl, fun c hc => absurd hc (Nat.not_lt_zero c)⟩
    refine go (cut2 76 97) 60 76 _ _ _ _ _ ?_
    refine icg rfl (show (14 : Int32) = nI 14 from rfl) (by omega) (by omega) (fun c => ?_) (fun c => ?_)
    · have e : k = 14 := by omega
      subst e
      exact L2 C hC
    · refine mstk (f := 715) hS (by decide) k rfl (by show k < 14; omega) ?_
      have e := ih c (va_up C 715 (upd (C 715) k 0)) ⟨fun f hf => ?_, fun j hj => ?_⟩
      · rw [← nI_1] at e
        exact e
      · rw [va_up_ne _ _ (by omega)]
        exact hC.1 f hf
      · show upd (C 715) k 0 j = _
        unfold upd
        by_cases q : j = k
        · rw [if_pos q]
        · rw [if_neg q]
          exact hC.2 j (by omega)
end M14
