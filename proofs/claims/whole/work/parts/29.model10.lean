/-! ===== the reference: images ===== -/
theorem ix5 (k j : Nat) : (5 : Int32) * nI k + nI j = nI (5 * k + j) := by rw [show (5 : Int32) = nI 5 from rfl, pk_mul, nI_add]
theorem ix8 (k j : Nat) : (8 : Int32) * nI k + nI j = nI (8 * k + j) := by rw [show (8 : Int32) = nI 8 from rfl, pk_mul, nI_add]
theorem ix4 (k j : Nat) : (4 : Int32) * nI k + nI j = nI (4 * k + j) := by rw [show (4 : Int32) = nI 4 from rfl, pk_mul, nI_add]
theorem ix5z (k : Nat) : (5 : Int32) * nI k = nI (5 * k) := by rw [show (5 : Int32) = nI 5 from rfl, pk_mul]
abbrev law5 (I : Nat → Int32) (g : Nat → Int32) (k : Nat) : Nat → Int32 := upd (upd (upd (upd (upd g (5 * k) (I 707)) (5 * k + 1) (I 708)) (5 * k + 2) (I 709)) (5 * k + 3) (I 710)) (5 * k + 4) (I 711)
abbrev imA (I : Nat → Int32) (A : Nat → Nat → Int32) (k : Nat) : Nat → Nat → Int32 := va_up (va_up (va_up (va_up (va_up (va_up A 731 (upd (A 731) k 1)) 732 (law5 I (A 732) k)) 733 (va_cpy (A 712) (A 733) 0 (8 * k) 8)) 734 (va_cpy (A 713) (A 734) 0 (4 * k) 4)) 735 (va_cpy (A 714) (A 735) 0 (4 * k) 4)) 736 (va_cpy (A 715) (A 736) 0 (14 * k) 14)
abbrev reI (I : Nat → Int32) (A : Nat → Nat → Int32) (k : Nat) : Nat → Int32 := upd (upd (upd (upd (upd (upd I 707 (A 732 (5 * k))) 708 (A 732 (5 * k + 1))) 709 (A 732 (5 * k + 2))) 710 (A 732 (5 * k + 3))) 711 (A 732 (5 * k + 4))) 727 0
abbrev reA (A : Nat → Nat → Int32) (k : Nat) : Nat → Nat → Int32 := va_up (va_up (va_up (va_up A 712 (va_cpy (A 733) (A 712) (8 * k) 0 8)) 713 (va_cpy (A 734) (A 713) (4 * k) 0 4)) 714 (va_cpy (A 735) (A 714) (4 * k) 0 4)) 715 (va_cpy (A 736) (A 715) (14 * k) 0 14)
section M10
variable {d x n cm at' am by' tm : Nat} {h : hp} {I : Nat → Int32} {A : Nat → Nat → Int32} {kk : Rt}
set_option maxRecDepth 20000 in
theorem m_image {ki : Int32} (hS : MSh h (x + 1)) (hI : MIn I n cm at' am by' tm) (hb : ¬ inB ki 2 → kk (some (.inl eBAD)) (MU h (x + 1) I A)) (hs : inB ki 2 → n = 0 → kk (some (.inl eSTATE)) (MU h (x + 1) I A))
    (hg : ∀ k, k < 2 → ki = nI k → 0 < n → kk (some (.inl 1)) (MU h (x + 1) I (imA I A k))) : CL (d + 1) mX7_image 0 0 [.inr (.inr (8, x + 1)), .inl ki] (MU h (x + 1) I A) kk := by
  obtain ⟨⟨hn, hn8⟩, -⟩ := hI
  have eR : inR ki 0 1 ↔ inB ki 2 := inR_B (n := 2) (by omega)
  refine mw T_X7_image (fun Wm go => go (cut1 99) 120 0 _ _ _ _ _ ?_)
  refine m_in (fun c1 => br1 ?_) (fun c1 => br0 (hb (fun z => c1 (eR.mpr z))))
  refine n0 ((MU_fI _ _ _ _ _).trans hn) hn8 (fun c => hs (eR.mp c1) c) (fun c => ?_)
  obtain ⟨k, hk, rfl⟩ := inB_of (eR.mp c1) (by omega)
  have fin := hg k hk rfl c
  refine mstk (f := 731) hS (by decide) k rfl hk ?_
  refine mstk (f := 732) hS (by decide) (5 * k) (ix5z k) (by show _ < 10; omega) ?_
  refine mstk (f := 732) hS (by decide) (5 * k + 1) (ix5 k 1) (by show _ < 10; omega) ?_
  refine mstk (f := 732) hS (by decide) (5 * k + 2) (ix5 k 2) (by show _ < 10; omega) ?_
  refine mstk (f := 732) hS (by decide) (5 * k + 3) (ix5 k 3) (by show _ < 10; omega) ?_
  refine mstk (f := 732) hS (by decide) (5 * k + 4) (ix5 k 4) (by show _ < 10; omega) ?_
  have key : ∀ B : Nat → Nat → Int32, B = va_up (va_up A 731 (upd (A 731) k 1)) 732 (law5 I (A 732) k) → Wm 99 [some (.inr (.inr (8, x + 1))), some (.inl (nI k)), some (.inl (nI 0))] [] (MU h (x + 1) I B) 0 0 := by
    intro B hB
    have b12 : B 712 = A 712 := by rw [hB]; rfl
    have b13 : B 713 = A 713 := by rw [hB]; rfl
    have b14 : B 714 = A 714 := by rw [hB]; rfl
    have b15 : B 715 = A 715 := by rw [hB]; rfl
    have b33 : B 733 = A 733 := by rw [hB]; rfl
    have b34 : B 734 = A 734 := by rw [hB]; rfl
    have b35 : B 735 = A 735 := by rw [hB]; rfl
    have b36 : B 736 = A 736 := by rw [hB]; rfl
    have fin : kk (some (.inl 1)) (MU h (x + 1) I (va_up (va_up (va_up (va_up B 733 (va_cpy (B 712) (B 733) 0 (8 * k) 8)) 734 (va_cpy (B 713) (B 734) 0 (4 * k) 4)) 735 (va_cpy (B 714) (B 735) 0 (4 * k) 4)) 736 (va_cpy (B 715) (B 736) 0 (14 * k) 14))) := by
      rw [b12, b13, b14, b15, b33, b34, b35, b36, hB]
      exact fin
    clear hB b12 b13 b14 b15 b33 b34 b35 b36
    have s1 := upto (n := 8) (P := fun j => Wm 99 [some (.inr (.inr (8, x + 1))), some (.inl (nI k)), some (.inl (nI j))] [] (MU h (x + 1) I (va_up B 733 (va_cpy (B 712) (B 733) 0 (8 * k) j))) 0 0) (fun j hj ih => ?_) 0 (Nat.zero_le _)
    · rw [cpy_0, up_id] at s1
      exact s1
    refine go (cut2 99 130) 80 99 _ _ _ _ _ ?_
    refine icg rfl (show (8 : Int32) = nI 8 from rfl) (by omega) (by omega) (fun z => ?_) (fun z => ?_)
    · have e : j = 8 := by omega
      subst e
      generalize hC : va_up B 733 (va_cpy (B 712) (B 733) 0 (8 * k) 8) = C at fin
      have c13 : C 713 = B 713 := by rw [← hC]; rfl
      have c14 : C 714 = B 714 := by rw [← hC]; rfl
      have c15 : C 715 = B 715 := by rw [← hC]; rfl
      have c34 : C 734 = B 734 := by rw [← hC]; rfl
      have c35 : C 735 = B 735 := by rw [← hC]; rfl
      have c36 : C 736 = B 736 := by rw [← hC]; rfl
      rw [← c13, ← c14, ← c15, ← c34, ← c35, ← c36] at fin
      clear hC c13 c14 c15 c34 c35 c36 ih
      have s2 := upto (n := 4) (P := fun j => Wm 130 [some (.inr (.inr (8, x + 1))), some (.inl (nI k)), some (.inl (nI j))] [] (MU h (x + 1) I (va_up (va_up C 734 (va_cpy (C 713) (C 734) 0 (4 * k) j)) 735 (va_cpy (C 714) (C 735) 0 (4 * k) j))) 0 0) (fun j hj ih => ?_) 0 (Nat.zero_le _)
      · rw [cpy_0, cpy_0, up_id] at s2
        have s2 : Wm 130 [some (.inr (.inr (8, x + 1))), some (.inl (nI k)), some (.inl (nI 0))] [] (MU h (x + 1) I (va_up C 735 (C 735))) 0 0 := s2
        rw [up_id] at s2
        exact s2
      refine go (cut2 130 175) 80 130 _ _ _ _ _ ?_
      refine icg rfl (show (4 : Int32) = nI 4 from rfl) (by omega) (by omega) (fun z => ?_) (fun z => ?_)
      · have e : j = 4 := by omega
        subst e
        generalize hE : va_up (va_up C 734 (va_cpy (C 713) (C 734) 0 (4 * k) 4)) 735 (va_cpy (C 714) (C 735) 0 (4 * k) 4) = E at fin
        have e15 : E 715 = C 715 := by rw [← hE]; rfl
        have e36 : E 736 = C 736 := by rw [← hE]; rfl
        rw [← e15, ← e36] at fin
        clear hE e15 e36 ih
        have s3 := upto (n := 14) (P := fun j => Wm 175 [some (.inr (.inr (8, x + 1))), some (.inl (nI k)), some (.inl (nI j))] [] (MU h (x + 1) I (va_up E 736 (va_cpy (E 715) (E 736) 0 (14 * k) j))) 0 0) (fun j hj ih => ?_) 0 (Nat.zero_le _)
        · rw [cpy_0, up_id] at s3
          exact s3
        refine go (cut1 175) 80 175 _ _ _ _ _ ?_
        refine icg rfl (show (14 : Int32) = nI 14 from rfl) (by omega) (by omega) (fun z => ?_) (fun z => ?_)
        · have e : j = 14 := by omega
          subst e
          exact fin
        · refine mldk (f := 715) hS (by decide) j rfl (by show j < 14; omega) ?_
          refine mstk (f := 736) hS (by decide) (14 * k + j) (ix14 k j) (by show _ < 28; omega) ?_
          have e := ih z
          rw [← cpy_s, Nat.zero_add, ← bx_uu E 736 (va_cpy (E 715) (E 736) 0 (14 * k) j), ← nI_1] at e
          exact e
      · refine mldk (f := 713) hS (by decide) j rfl (by show j < 4; omega) ?_
        refine mstk (f := 734) hS (by decide) (4 * k + j) (ix4 k j) (by show _ < 8; omega) ?_
        refine mldk (f := 714) hS (by decide) j rfl (by show j < 4; omega) ?_
        refine mstk (f := 735) hS (by decide) (4 * k + j) (ix4 k j) (by show _ < 8; omega) ?_
        have e := ih z
        rw [← cpy_s, ← cpy_s, Nat.zero_add, ← bx_uu (va_up C 734 _) 735 (va_cpy (C 714) (C 735) 0 (4 * k) j), ← up_sw (f := 734) (g := 735) (by decide) C (va_cpy (C 713) (C 734) 0 (4 * k) j), ← nI_1] at e
        exact e
    · refine mldk (f := 712) hS (by decide) j rfl (by show j < 8; omega) ?_
      refine mstk (f := 733) hS (by decide) (8 * k + j) (ix8 k j) (by show _ < 16; omega) ?_
      have e := ih z
      rw [← cpy_s, Nat.zero_add, ← bx_uu B 733 (va_cpy (B 712) (B 733) 0 (8 * k) j), ← nI_1] at e
      exact e
  refine wmc (Wm := Wm) (key _ rfl) rfl ?_
  simp only [MU_fI, bx_uu]
  rfl
set_option maxRecDepth 20000 in
theorem m_restore {ki : Int32} (hS : MSh h (x + 1)) (hb : ¬ inB ki 2 → kk (some (.inl eBAD)) (MU h (x + 1) I A)) (hs : ∀ k, k < 2 → ki = nI k → A 731 k = 0 → kk (some (.inl eSTATE)) (MU h (x + 1) I A))
    (hg : ∀ k, k < 2 → ki = nI k → ¬ A 731 k = 0 → kk (some (.inl 1)) (MU h (x + 1) (reI I A k) (reA A k))) : CL (d + 1) mX7_restore 0 0 [.inr (.inr (8, x + 1)), .inl ki] (MU h (x + 1) I A) kk := by
  have eR : inR ki 0 1 ↔ inB ki 2 := inR_B (n := 2) (by omega)
  refine mw T_X7_restore (fun Wm go => go (cut3 36 50 64) 120 0 _ _ _ _ _ ?_)
  refine m_in (fun c1 => br1 ?_) (fun c1 => br0 (hb (fun z => c1 (eR.mpr z))))
  obtain ⟨k, hk, rfl⟩ := inB_of (eR.mp c1) (by omega)
  refine mldk (f := 731) hS (by decide) k rfl hk ?_
  refine And.intro (fun z => hs k hk rfl z) (fun z => ?_)
  have fin := hg k hk rfl z
  refine mldk (f := 732) hS (by decide) (5 * k) (ix5z k) (by show _ < 10; omega) ?_
  refine wmc (Wm := Wm) (h' := MU h (x + 1) (upd I 707 (A 732 (5 * k))) A) ?_ rfl (MU_wI _ _ _ _ _ _)
  refine go (cut3 50 64 78) 120 36 _ _ _ _ _ ?_
  refine mldk (f := 732) hS (by decide) (5 * k + 1) (ix5 k 1) (by show _ < 10; omega) ?_
  refine wmc (Wm := Wm) (h' := MU h (x + 1) (upd (upd I 707 (A 732 (5 * k))) 708 (A 732 (5 * k + 1))) A) ?_ rfl (MU_wI _ _ _ _ _ _)
  refine go (cut3 92 64 78) 120 50 _ _ _ _ _ ?_
  refine mldk (f := 732) hS (by decide) (5 * k + 2) (ix5 k 2) (by show _ < 10; omega) ?_
  refine wmc (Wm := Wm) (h' := MU h (x + 1) (upd (upd (upd I 707 (A 732 (5 * k))) 708 (A 732 (5 * k + 1))) 709 (A 732 (5 * k + 2))) A) ?_ rfl (MU_wI _ _ _ _ _ _)
  refine go (cut3 92 94 78) 120 64 _ _ _ _ _ ?_
  refine mldk (f := 732) hS (by decide) (5 * k + 3) (ix5 k 3) (by show _ < 10; omega) ?_
  refine wmc (Wm := Wm) (h' := MU h (x + 1) (upd (upd (upd (upd I 707 (A 732 (5 * k))) 708 (A 732 (5 * k + 1))) 709 (A 732 (5 * k + 2))) 710 (A 732 (5 * k + 3))) A) ?_ rfl (MU_wI _ _ _ _ _ _)
  refine go (cut2 92 94) 120 78 _ _ _ _ _ ?_
  refine mldk (f := 732) hS (by decide) (5 * k + 4) (ix5 k 4) (by show _ < 10; omega) ?_
  refine wmc (Wm := Wm) (h' := MU h (x + 1) (upd (upd (upd (upd (upd I 707 (A 732 (5 * k))) 708 (A 732 (5 * k + 1))) 709 (A 732 (5 * k + 2))) 710 (A 732 (5 * k + 3))) 711 (A 732 (5 * k + 4))) A) ?_ rfl (MU_wI _ _ _ _ _ _)
  generalize hJ : upd (upd (upd (upd (upd I 707 (A 732 (5 * k))) 708 (A 732 (5 * k + 1))) 709 (A 732 (5 * k + 2))) 710 (A 732 (5 * k + 3))) 711 (A 732 (5 * k + 4)) = J
  have fin : kk (some (.inl 1)) (MU h (x + 1) (upd J 727 0) (reA A k)) := by rw [← hJ]; exact fin
  refine go (cut1 94) 120 92 _ _ _ _ _ ?_
  have s1 := upto (n := 8) (P := fun j => Wm 94 [some (.inr (.inr (8, x + 1))), some (.inl (nI k)), some (.inl (nI j))] [] (MU h (x + 1) J (va_up A 712 (va_cpy (A 733) (A 712) (8 * k) 0 j))) 0 0) (fun j hj ih => ?_) 0 (Nat.zero_le _)
  · rw [cpy_0, up_id] at s1
    exact s1
  refine go (cut2 94 125) 80 94 _ _ _ _ _ ?_
  refine icg rfl (show (8 : Int32) = nI 8 from rfl) (by omega) (by omega) (fun z => ?_) (fun z => ?_)
  · have e : j = 8 := by omega
    subst e
    have fin : kk (some (.inl 1)) (MU h (x + 1) (upd J 727 0) (va_up (va_up (va_up (va_up A 712 (va_cpy (A 733) (A 712) (8 * k) 0 8)) 713 (va_cpy (A 734) (A 713) (4 * k) 0 4)) 714 (va_cpy (A 735) (A 714) (4 * k) 0 4)) 715 (va_cpy (A 736) (A 715) (14 * k) 0 14))) := fin
    generalize hC : va_up A 712 (va_cpy (A 733) (A 712) (8 * k) 0 8) = C at fin
    have c13 : C 713 = A 713 := by rw [← hC]; rfl
    have c14 : C 714 = A 714 := by rw [← hC]; rfl
    have c15 : C 715 = A 715 := by rw [← hC]; rfl
    have c34 : C 734 = A 734 := by rw [← hC]; rfl
    have c35 : C 735 = A 735 := by rw [← hC]; rfl
    have c36 : C 736 = A 736 := by rw [← hC]; rfl
    rw [← c13, ← c14, ← c15, ← c34, ← c35, ← c36] at fin
    clear hC c13 c14 c15 c34 c35 c36 ih
    have s2 := upto (n := 4) (P := fun j => Wm 125 [some (.inr (.inr (8, x + 1))), some (.inl (nI k)), some (.inl (nI j))] [] (MU h (x + 1) J (va_up (va_up C 713 (va_cpy (C 734) (C 713) (4 * k) 0 j)) 714 (va_cpy (C 735) (C 714) (4 * k) 0 j))) 0 0) (fun j hj ih => ?_) 0 (Nat.zero_le _)
    · rw [cpy_0, cpy_0, up_id] at s2
      have s2 : Wm 125 [some (.inr (.inr (8, x + 1))), some (.inl (nI k)), some (.inl (nI 0))] [] (MU h (x + 1) J (va_up C 714 (C 714))) 0 0 := s2
      rw [up_id] at s2
      exact s2
    refine go (cut2 125 170) 80 125 _ _ _ _ _ ?_
    refine icg rfl (show (4 : Int32) = nI 4 from rfl) (by omega) (by omega) (fun z => ?_) (fun z => ?_)
    · have e : j = 4 := by omega
      subst e
      generalize hE : va_up (va_up C 713 (va_cpy (C 734) (C 713) (4 * k) 0 4)) 714 (va_cpy (C 735) (C 714) (4 * k) 0 4) = E at fin
      have e15 : E 715 = C 715 := by rw [← hE]; rfl
      have e36 : E 736 = C 736 := by rw [← hE]; rfl
      rw [← e15, ← e36] at fin
      clear hE e15 e36 ih
      have s3 := upto (n := 14) (P := fun j => Wm 170 [some (.inr (.inr (8, x + 1))), some (.inl (nI k)), some (.inl (nI j))] [] (MU h (x + 1) J (va_up E 715 (va_cpy (E 736) (E 715) (14 * k) 0 j))) 0 0) (fun j hj ih => ?_) 0 (Nat.zero_le _)
      · rw [cpy_0, up_id] at s3
        exact s3
      refine go (cut1 170) 80 170 _ _ _ _ _ ?_
      refine icg rfl (show (14 : Int32) = nI 14 from rfl) (by omega) (by omega) (fun z => ?_) (fun z => ?_)
      · have e : j = 14 := by omega
        subst e
        exact kki fin rfl (MU_wI _ _ _ _ _ _)
      · refine mldk (f := 736) hS (by decide) (14 * k + j) (ix14 k j) (by show _ < 28; omega) ?_
        refine mstk (f := 715) hS (by decide) j rfl (by show j < 14; omega) ?_
        have e := ih z
        rw [← cpy_s, Nat.zero_add, ← bx_uu E 715 (va_cpy (E 736) (E 715) (14 * k) 0 j), ← nI_1] at e
        exact e
    · refine mldk (f := 734) hS (by decide) (4 * k + j) (ix4 k j) (by show _ < 8; omega) ?_
      refine mstk (f := 713) hS (by decide) j rfl (by show j < 4; omega) ?_
      refine mldk (f := 735) hS (by decide) (4 * k + j) (ix4 k j) (by show _ < 8; omega) ?_
      refine mstk (f := 714) hS (by decide) j rfl (by show j < 4; omega) ?_
      have e := ih z
      rw [← cpy_s, ← cpy_s, Nat.zero_add, ← bx_uu (va_up C 713 _) 714 (va_cpy (C 735) (C 714) (4 * k) 0 j), ← up_sw (f := 713) (g := 714) (by decide) C (va_cpy (C 734) (C 713) (4 * k) 0 j), ← nI_1] at e
      exact e
  · refine mldk (f := 733) hS (by decide) (8 * k + j) (ix8 k j) (by show _ < 16; omega) ?_
    refine mstk (f := 712) hS (by decide) j rfl (by show j < 8; omega) ?_
    have e := ih z
    rw [← cpy_s, Nat.zero_add, ← bx_uu A 712 (va_cpy (A 733) (A 712) (8 * k) 0 j), ← nI_1] at e
    exact e
end M10
