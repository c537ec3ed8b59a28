/-! ===== the reference: reading its items ===== -/
abbrev KF {α : Type} (kk : Rt) (h : hp) (x : Nat) (I0 : Nat → Int32) (A0 : Nat → Nat → Int32) (R : (Int32 × Nat) ⊕ α) : Prop := ∀ f q I' A', R = .inl (f, q) → EI I0 I' → ER A0 A' → I' 718 = f → I' 717 = nI q → kk (some (.inl 0)) (MU h (x + 1) I' A')
abbrev KG (kk : Rt) (h : hp) (x : Nat) (I0 : Nat → Int32) (A0 : Nat → Nat → Int32) (B : Nat) (ra ru : Int32) (R : (Int32 × Nat) ⊕ PS) : Prop := ∀ S' I' A', R = .inr S' → RM I0 A0 B ra ru S' I' A' → kk (some (.inl 1)) (MU h (x + 1) I' A')
theorem cq {v : Int32} {a b : Nat} (hv : v = nI a) (ha : a < 2 ^ 31) (hb : b < 2 ^ 31) {X Y : Prop} (s : a = b → X) (t : a ≠ b → Y) : (v = nI b → X) ∧ (¬ v = nI b → Y) := by
  subst hv
  exact ⟨fun c => s ((nI_eq ha hb).mp c), fun c => t (fun q => c (by rw [q]))⟩
theorem MU_inc {h : hp} {x : Nat} {I : Nat → Int32} {A : Nat → Nat → Int32} {k a : Nat} (e : I k = nI a) : wfI (MU h x I A) k x (hfI (MU h x I A) k x + 1) = MU h x (upd I k (nI (a + 1))) A := by
  rw [MU_wI, MU_fI, e, nI_1]
theorem kindN_in (v : Int32) : kindN v = 0 ∨ ∃ k, 1 ≤ k ∧ k ≤ 5 ∧ kindN v = nI k := by
  unfold kindN
  split
  · exact Or.inr ⟨1, by omega, by omega, rfl⟩
  split
  · exact Or.inr ⟨2, by omega, by omega, rfl⟩
  split
  · exact Or.inr ⟨3, by omega, by omega, rfl⟩
  split
  · exact Or.inr ⟨4, by omega, by omega, rfl⟩
  split
  · exact Or.inr ⟨5, by omega, by omega, rfl⟩
  · exact Or.inl rfl
theorem kindN_ne (v : Int32) : kindN v ≠ eNONE := by
  unfold kindN
  repeat' split
  all_goals decide
section M12
variable {d x p nb nr nc B : Nat} {ch on ki ha : Nat → Int32} {ra ru : Int32} {h : hp} {I I0 : Nat → Int32} {A A0 : Nat → Nat → Int32} {kk : Rt}
theorem m_readsBlock (hS : MSh h (x + 1)) (hM : RM I0 A0 B ra ru (p, nb, nr, nc, ch, on, ki, ha) I A) (hl : p < B) (hf : KF kk h x I0 A0 (blockR (A0 705) B (p, nb, nr, nc, ch, on, ki, ha))) (hg : KG kk h x I0 A0 B ra ru (blockR (A0 705) B (p, nb, nr, nc, ch, on, ki, ha))) : CL (d + 4) mX7_readsBlock 0 0 [.inr (.inr (8, x + 1))] (MU h (x + 1) I A) kk := by
  obtain ⟨⟨hE, hR, hB, h120⟩, ⟨e17, -⟩, ⟨e19, n8⟩, ⟨e20, n12⟩, ⟨e21, n4⟩, hlaw, hbl, hcl⟩ := hM
  dsimp only at e17 e19 n8 e20 n12 e21 n4 hbl hcl
  have e5 : A 705 = A0 705 := hR 705 (by omega)
  have eB : I 704 = nI B := (hE 704 (by omega)).trans hB
  unfold KF blockR at hf
  unfold KG blockR at hg
  dsimp only at hf hg
  rw [← e5] at hf hg
  refine mw3 T_X7_readsBlock (fun Wm go wk => go (cut1 25) 120 0 _ _ _ _ _ ?_)
  refine cq (b := 8) ((MU_fI _ _ _ _ _).trans e19) (by omega) (by omega) (fun c => ?_) (fun c => ?_)
  · exact m_fails (And.intro (Or.inl rfl) (hf 3 p _ _ (if_pos c) (hE.u (by omega)) hR rfl e17))
  · rw [if_neg c] at hf hg
    refine wmc (Wm := Wm) ?_ rfl (MU_inc e17)
    refine go (cut1 48) 120 25 _ _ _ _ _ ?_
    refine m_number (p := p + 1) hS rfl eB h120 (by omega) (fun f hn => ?_) (fun v q hn => ?_)
    · rw [nuR_0 hn] at hf
      refine And.intro (fun z => ?_) (fun z => absurd (show (-1 : Int32) < 0 by decide) z)
      exact And.intro (Or.inl rfl) (hf _ _ _ _ rfl ((hE.u (by omega)).u (by omega)) hR rfl rfl)
    · rw [nuR_1 hn] at hf hg
      obtain ⟨b1, b2, b3⟩ := numR_r hn
      refine And.intro (fun z => absurd z (ng b1 (by decide))) (fun z => ?_)
      refine m_readsSign (p := q) hS rfl eB h120 b3 (fun c2 => br0 ?_) (fun c2 => br1 ?_)
      · exact And.intro (Or.inl rfl) (hf 1 q _ _ (sgR_0 c2) (((hE.u (by omega)).u (by omega)).u (by omega)) hR rfl rfl)
      · rw [sgR_1 c2] at hg
        have l2 := letR_lt c2 (by decide)
        have hg := fun I' A' => hg _ I' A' rfl
        have hE' : EI I0 (upd (upd (upd I 717 (nI (p + 1))) 717 (nI q)) 717 (nI (q + 1))) := ((hE.u (by omega)).u (by omega)).u (by omega)
        have e19' : upd (upd (upd I 717 (nI (p + 1))) 717 (nI q)) 717 (nI (q + 1)) 719 = nI nb := e19
        have e20' : upd (upd (upd I 717 (nI (p + 1))) 717 (nI q)) 717 (nI (q + 1)) 720 = nI nr := e20
        have e21' : upd (upd (upd I 717 (nI (p + 1))) 717 (nI q)) 717 (nI (q + 1)) 721 = nI nc := e21
        have e17' : upd (upd (upd I 717 (nI (p + 1))) 717 (nI q)) 717 (nI (q + 1)) 717 = nI (q + 1) := rfl
        generalize upd (upd (upd I 717 (nI (p + 1))) 717 (nI q)) 717 (nI (q + 1)) = J at *
        refine go (cut1 78) 120 48 _ _ _ _ _ ?_
        have i19 : ∀ A, hfI (MU h (x + 1) J A) 719 (x + 1) = nI nb := fun A => (MU_fI _ _ _ _ _).trans e19'
        refine mstk (f := 723) hS (by decide) nb (i19 _) (by show nb < 8; omega) ?_
        refine mstk (f := 724) hS (by decide) nb (i19 _) (by show nb < 8; omega) ?_
        refine wmc (Wm := Wm) ?_ rfl (MU_inc e19')
        refine go cut0 20 78 _ _ _ _ _ (And.intro (Or.inr rfl) (hg _ _ ?_))
        refine ⟨⟨hE'.u (by omega), (hR.u (by omega)).u (by omega), hB, h120⟩, ⟨e17', by show q + 1 ≤ B; omega⟩, ⟨rfl, by show nb + 1 ≤ 8; omega⟩, ⟨e20', n12⟩, ⟨e21', n4⟩, hlaw, fun j hj => ?_, hcl⟩
        show upd (A 723) nb v j = upd ch nb v j ∧ upd (A 724) nb 0 j = upd on nb 0 j
        have hj : j < nb + 1 := hj
        unfold upd
        by_cases q : j = nb
        · rw [if_pos q, if_pos q, if_pos q, if_pos q]; exact ⟨rfl, rfl⟩
        · rw [if_neg q, if_neg q, if_neg q, if_neg q]; exact hbl j (by omega)
theorem m_readsClerk (hS : MSh h (x + 1)) (hM : RM I0 A0 B ra ru (p, nb, nr, nc, ch, on, ki, ha) I A) (hl : p < B) (hf : KF kk h x I0 A0 (clerkR (A0 705) B (p, nb, nr, nc, ch, on, ki, ha))) (hg : KG kk h x I0 A0 B ra ru (clerkR (A0 705) B (p, nb, nr, nc, ch, on, ki, ha))) : CL (d + 4) mX7_readsClerk 0 0 [.inr (.inr (8, x + 1))] (MU h (x + 1) I A) kk := by
  obtain ⟨⟨hE, hR, hB, h120⟩, ⟨e17, -⟩, ⟨e19, n8⟩, ⟨e20, n12⟩, ⟨e21, n4⟩, hlaw, hbl, hcl⟩ := hM
  dsimp only at e17 e19 n8 e20 n12 e21 n4 hbl hcl
  have e5 : A 705 = A0 705 := hR 705 (by omega)
  have eB : I 704 = nI B := (hE 704 (by omega)).trans hB
  unfold KF clerkR at hf
  unfold KG clerkR at hg
  dsimp only at hf hg
  rw [← e5] at hf hg
  refine mw3 T_X7_readsClerk (fun Wm go wk => go (cut1 44) 120 0 _ _ _ _ _ ?_)
  refine m_here hS e17 eB h120 (by omega) ?_
  refine m_kindOf ?_
  by_cases ck : kindN (letR (A 705) B p) = 0
  · rw [if_pos ck]
    refine And.intro (fun z => ?_) (fun z => absurd rfl z)
    exact m_fails (And.intro (Or.inl rfl) (hf 1 p _ _ (if_pos ck) (hE.u (by omega)) hR rfl e17))
  rw [if_neg ck] at hf hg
  rw [if_neg ck]
  have kne := kindN_ne (letR (A 705) B p)
  generalize kindN (letR (A 705) B p) = kd at *
  refine And.intro (fun z => absurd z kne) (fun _ => ?_)
  refine cq (b := 4) ((MU_fI _ _ _ _ _).trans e21) (by omega) (by omega) (fun c => ?_) (fun c => ?_)
  · exact m_fails (And.intro (Or.inl rfl) (hf 3 p _ _ (if_pos c) (hE.u (by omega)) hR rfl e17))
  · rw [if_neg c] at hf hg
    refine wmc (Wm := Wm) ?_ rfl (MU_inc e17)
    refine go (cut1 67) 120 44 _ _ _ _ _ ?_
    refine m_number (p := p + 1) hS rfl eB h120 (by omega) (fun f hn => ?_) (fun v q hn => ?_)
    · rw [nuR_0 hn] at hf
      refine And.intro (fun z => ?_) (fun z => absurd (show (-1 : Int32) < 0 by decide) z)
      exact And.intro (Or.inl rfl) (hf _ _ _ _ rfl ((hE.u (by omega)).u (by omega)) hR rfl rfl)
    · rw [nuR_1 hn] at hf hg
      obtain ⟨b1, b2, b3⟩ := numR_r hn
      refine And.intro (fun z => absurd z (ng b1 (by decide))) (fun z => ?_)
      refine m_readsSign (p := q) hS rfl eB h120 b3 (fun c2 => br0 ?_) (fun c2 => br1 ?_)
      · exact And.intro (Or.inl rfl) (hf 1 q _ _ (sgR_0 c2) (((hE.u (by omega)).u (by omega)).u (by omega)) hR rfl rfl)
      · rw [sgR_1 c2] at hg
        have l2 := letR_lt c2 (by decide)
        have hg := fun I' A' => hg _ I' A' rfl
        have hE' : EI I0 (upd (upd (upd I 717 (nI (p + 1))) 717 (nI q)) 717 (nI (q + 1))) := ((hE.u (by omega)).u (by omega)).u (by omega)
        have e19' : upd (upd (upd I 717 (nI (p + 1))) 717 (nI q)) 717 (nI (q + 1)) 719 = nI nb := e19
        have e20' : upd (upd (upd I 717 (nI (p + 1))) 717 (nI q)) 717 (nI (q + 1)) 720 = nI nr := e20
        have e21' : upd (upd (upd I 717 (nI (p + 1))) 717 (nI q)) 717 (nI (q + 1)) 721 = nI nc := e21
        have e17' : upd (upd (upd I 717 (nI (p + 1))) 717 (nI q)) 717 (nI (q + 1)) 717 = nI (q + 1) := rfl
        generalize upd (upd (upd I 717 (nI (p + 1))) 717 (nI q)) 717 (nI (q + 1)) = J at *
        refine go (cut1 97) 120 67 _ _ _ _ _ ?_
        have i21 : ∀ A, hfI (MU h (x + 1) J A) 721 (x + 1) = nI nc := fun A => (MU_fI _ _ _ _ _).trans e21'
        refine mstk (f := 726) hS (by decide) nc (i21 _) (by show nc < 4; omega) ?_
        refine mstk (f := 725) hS (by decide) nc (i21 _) (by show nc < 4; omega) ?_
        refine wmc (Wm := Wm) ?_ rfl (MU_inc e21')
        refine go cut0 20 97 _ _ _ _ _ (And.intro (Or.inr rfl) (hg _ _ ?_))
        refine ⟨⟨hE'.u (by omega), (hR.u (by omega)).u (by omega), hB, h120⟩, ⟨e17', by show q + 1 ≤ B; omega⟩, ⟨e19', n8⟩, ⟨e20', n12⟩, ⟨rfl, by show nc + 1 ≤ 4; omega⟩, hlaw, hbl, fun j hj => ?_⟩
        show upd (A 726) nc kd j = upd ki nc kd j ∧ upd (A 725) nc v j = upd ha nc v j
        have hj : j < nc + 1 := hj
        unfold upd
        by_cases q : j = nc
        · rw [if_pos q, if_pos q, if_pos q, if_pos q]; exact ⟨rfl, rfl⟩
        · rw [if_neg q, if_neg q, if_neg q, if_neg q]; exact hcl j (by omega)
theorem m_readsRest (hS : MSh h (x + 1)) (hM : RM I0 A0 B ra ru (p, nb, nr, nc, ch, on, ki, ha) I A) (hl : p < B) (hf : KF kk h x I0 A0 (restR (A0 705) B (p, nb, nr, nc, ch, on, ki, ha))) (hg : KG kk h x I0 A0 B ra ru (restR (A0 705) B (p, nb, nr, nc, ch, on, ki, ha))) : CL (d + 4) mX7_readsRest 0 0 [.inr (.inr (8, x + 1))] (MU h (x + 1) I A) kk := by
  obtain ⟨⟨hE, hR, hB, h120⟩, ⟨e17, -⟩, ⟨e19, n8⟩, ⟨e20, n12⟩, ⟨e21, n4⟩, hlaw, hbl, hcl⟩ := hM
  dsimp only at e17 e19 n8 e20 n12 e21 n4 hbl hcl
  have e5 : A 705 = A0 705 := hR 705 (by omega)
  have eB : I 704 = nI B := (hE 704 (by omega)).trans hB
  unfold KF restR at hf
  unfold KG restR at hg
  dsimp only at hf hg
  rw [← e5] at hf hg
  refine mw3 T_X7_readsRest (fun Wm go wk => go (cut1 25) 120 0 _ _ _ _ _ ?_)
  refine cq (b := 12) ((MU_fI _ _ _ _ _).trans e20) (by omega) (by omega) (fun c => ?_) (fun c => ?_)
  · exact m_fails (And.intro (Or.inl rfl) (hf 3 p _ _ (if_pos c) (hE.u (by omega)) hR rfl e17))
  · rw [if_neg c] at hf hg
    refine wmc (Wm := Wm) ?_ rfl (MU_inc e17)
    refine go (cut1 52) 120 25 _ _ _ _ _ ?_
    have e19a : hfI (MU h (x + 1) (upd I 717 (nI (p + 1))) A) 719 (x + 1) - 1 = nI nb - 1 := by rw [MU_fI]; show I 719 - 1 = _; rw [e19]
    refine m_number (p := p + 1) hS rfl eB h120 (by omega) (fun f hn => ?_) (fun u q hn => ?_)
    · have hn : numR (A 705) B (p + 1) 0 (hfI (MU h (x + 1) (upd I 717 (nI (p + 1))) A) 719 (x + 1) - 1) = .inl f := hn
      rw [e19a] at hn
      rw [nuR_0 hn] at hf
      refine And.intro (fun z => ?_) (fun z => absurd (show (-1 : Int32) < 0 by decide) z)
      exact And.intro (Or.inl rfl) (hf _ _ _ _ rfl ((hE.u (by omega)).u (by omega)) hR rfl rfl)
    · have hn : numR (A 705) B (p + 1) 0 (hfI (MU h (x + 1) (upd I 717 (nI (p + 1))) A) 719 (x + 1) - 1) = .inr (u, q) := hn
      rw [e19a] at hn
      rw [nuR_1 hn] at hf hg
      obtain ⟨b1, b2, b3⟩ := numR_r hn
      refine And.intro (fun z => absurd z (ng b1 (by decide))) (fun z => ?_)
      refine m_readsSign (p := q) hS rfl eB h120 b3 (fun c2 => br0 ?_) (fun c2 => br1 ?_)
      · exact And.intro (Or.inl rfl) (hf 1 q _ _ (sgR_0 c2) (((hE.u (by omega)).u (by omega)).u (by omega)) hR rfl rfl)
      · rw [sgR_1 c2] at hf hg
        have l2 := letR_lt c2 (by decide)
        have hE' : EI I0 (upd (upd (upd I 717 (nI (p + 1))) 717 (nI q)) 717 (nI (q + 1))) := ((hE.u (by omega)).u (by omega)).u (by omega)
        have e19' : upd (upd (upd I 717 (nI (p + 1))) 717 (nI q)) 717 (nI (q + 1)) 719 = nI nb := e19
        have e20' : upd (upd (upd I 717 (nI (p + 1))) 717 (nI q)) 717 (nI (q + 1)) 720 = nI nr := e20
        have e21' : upd (upd (upd I 717 (nI (p + 1))) 717 (nI q)) 717 (nI (q + 1)) 721 = nI nc := e21
        have e17' : upd (upd (upd I 717 (nI (p + 1))) 717 (nI q)) 717 (nI (q + 1)) 717 = nI (q + 1) := rfl
        generalize upd (upd (upd I 717 (nI (p + 1))) 717 (nI q)) 717 (nI (q + 1)) = J at *
        have eB' : J 704 = nI B := (hE' 704 (by omega)).trans hB
        obtain ⟨b, hb, rfl⟩ := inB_of ((inR_B (by omega)).mp b1) (by omega)
        rw [nI_clamp (by omega)] at hf hg
        refine go (cut2 90 108) 120 52 _ _ _ _ _ ?_
        have i17 : hfI (MU h (x + 1) J A) 717 (x + 1) = nI (q + 1) := (MU_fI _ _ _ _ _).trans e17'
        refine m_number (p := q + 1) hS e17' eB' h120 (by omega) (fun f hn2 => ?_) (fun l r hn2 => ?_)
        · have hn2 : numR (A 705) B (q + 1) 0 (nI b - 1) = .inl f := hn2
          rw [nuR_0 hn2] at hf
          refine And.intro (fun z => absurd z (by decide)) (fun z => ?_)
          exact And.intro (Or.inl rfl) (hf _ _ _ _ rfl (hE'.u (by omega)) hR rfl e17')
        · have hn2 : numR (A 705) B (q + 1) 0 (nI b - 1) = .inr (l, r) := hn2
          rw [nuR_1 hn2] at hf hg
          obtain ⟨d1, d2, d3⟩ := numR_r hn2
          refine And.intro (fun z => ?_) (fun z => absurd d1.1 z)
          have eon : A 724 b = on b := (hbl b (by omega)).2
          refine mldk (f := 724) hS (by decide) b rfl (by show b < 8; omega) ?_
          refine m_has (fun c3 => br1 ?_) (fun c3 => br0 ?_)
          · have c3 : hasB (A 724 b) l := c3
            rw [eon] at c3
            rw [if_pos c3] at hf
            refine wmc (Wm := Wm) (h' := MU h (x + 1) (upd (upd J 717 (nI r)) 717 (nI (q + 1))) A) ?_ rfl (by rw [i17]; exact MU_wI _ _ _ _ _ _)
            refine go cut0 20 90 _ _ _ _ _ ?_
            exact m_fails (And.intro (Or.inl rfl) (hf _ _ _ _ rfl (((hE'.u (by omega)).u (by omega)).u (by omega)) hR rfl rfl))
          · have c3 : ¬ hasB (A 724 b) l := c3
            rw [eon] at c3
            rw [if_neg c3] at hf hg
            refine mldk (f := 724) hS (by decide) b rfl (by show b < 8; omega) ?_
            refine mstk (f := 724) hS (by decide) b rfl (by show b < 8; omega) ?_
            refine go (cut1 118) 60 108 _ _ _ _ _ ?_
            refine wmc (Wm := Wm) ?_ rfl (MU_inc (a := nr) e20')
            refine go cut0 60 118 _ _ _ _ _ ?_
            have hE2 : EI I0 (upd (upd J 717 (nI r)) 720 (nI (nr + 1))) := (hE'.u (by omega)).u (by omega)
            refine m_readsSign (p := r) hS rfl ((hE2 704 (by omega)).trans hB) h120 d3 (fun c4 => ?_) (fun c4 => ?_)
            · exact And.intro (Or.inl rfl) (hf 1 r _ _ (sgR_0 c4) (hE2.u (by omega)) (hR.u (by omega)) rfl rfl)
            · have c4 : letR (A 705) B r = 59 := c4
              rw [sgR_1 c4] at hg
              have l3 := letR_lt c4 (by decide)
              refine And.intro (Or.inr rfl) (hg _ _ _ rfl ⟨⟨hE2.u (by omega), hR.u (by omega), hB, h120⟩, ⟨rfl, by show r + 1 ≤ B; omega⟩, ⟨e19', n8⟩, ⟨rfl, by show nr + 1 ≤ 12; omega⟩, ⟨e21', n4⟩, hlaw, fun j hj => ?_, hcl⟩)
              show A 723 j = ch j ∧ upd (A 724) b (A 724 b ||| (1 <<< (l &&& 31))) j = upd on b (on b ||| (1 <<< (l &&& 31))) j
              have hj : j < nb := hj
              rw [eon]
              refine ⟨(hbl j hj).1, ?_⟩
              unfold upd
              by_cases q : j = b
              · rw [if_pos q, if_pos q]
              · rw [if_neg q, if_neg q]; exact (hbl j hj).2
end M12
section M13
variable {d x B : Nat} {S : PS} {ra ru : Int32} {h : hp} {I I0 : Nat → Int32} {A A0 : Nat → Nat → Int32} {kk : Rt}
theorem kindN_m1 : kindN (-1) = 0 := by decide
theorem clerkR_m {t : Nat → Int32} {S : PS} (h : ¬ S.1 < B) : clerkR t B S = .inl (1, S.1) := by
  obtain ⟨p, nb, nr, nc, ch, on, ki, ha⟩ := S
  have h : ¬ p < B := h
  show (if _ then _ else _) = _
  rw [if_pos]
  unfold letR
  rw [if_neg h]
  decide
theorem m_readsItem (hS : MSh h (x + 1)) (hM : RM I0 A0 B ra ru S I A) (hl : S.2.1 = 0 ∨ S.1 < B) (hf : KF kk h x I0 A0 (itemR (A0 705) B S)) (hg : KG kk h x I0 A0 B ra ru (itemR (A0 705) B S)) : CL (d + 5) mX7_readsItem 0 0 [.inr (.inr (8, x + 1))] (MU h (x + 1) I A) kk := by
  obtain ⟨p, nb, nr, nc, ch, on, ki, ha⟩ := S
  have hM' := hM
  obtain ⟨⟨hE, hR, hB, h120⟩, ⟨e17, pB⟩, ⟨e19, n8⟩, ⟨e20, n12⟩, ⟨e21, n4⟩, hlaw, hbl, hcl⟩ := hM
  dsimp only at e17 pB e19 n8 e20 n12 e21 n4 hbl hcl hl
  have e5 : A 705 = A0 705 := hR 705 (by omega)
  have eB : I 704 = nI B := (hE 704 (by omega)).trans hB
  unfold KF itemR at hf
  unfold KG itemR at hg
  dsimp only at hf hg
  refine mw3 T_X7_readsItem (fun Wm go wk => go (cut1 19) 60 0 _ _ _ _ _ ?_)
  have key2 : ¬ (letR (A0 705) B p = 98 ∧ nr = 0 ∧ nc = 0) → ¬ (letR (A0 705) B p = 114 ∧ 0 < nb ∧ nc = 0) → Wm 66 [some (.inr (.inr (8, x + 1))), none] [] (MU h (x + 1) I A) 0 0 := by
    intro k1 k2
    rw [if_neg k1, if_neg k2] at hf hg
    refine go cut0 60 66 _ _ _ _ _ ?_
    refine icg (b := nb) (a := 0) rfl ((MU_fI _ _ _ _ _).trans e19) (by omega) (by omega) (fun c => ?_) (fun c => ?_)
    · have c : ¬ 0 < nb := by omega
      rw [if_neg c] at hf
      exact m_fails (And.intro (Or.inl rfl) (hf 1 p _ _ rfl (hE.u (by omega)) hR rfl e17))
    · rw [if_pos c] at hf hg
      exact m_readsClerk hS hM' (by omega) (fun f q I' A' r1 r2 r3 r4 r5 => And.intro (Or.inl rfl) (hf f q I' A' r1 r2 r3 r4 r5)) (fun S' I' A' r1 r2 => And.intro (Or.inr rfl) (hg S' I' A' r1 r2))
  have key1 : ¬ (letR (A0 705) B p = 98 ∧ nr = 0 ∧ nc = 0) → Wm 38 [some (.inr (.inr (8, x + 1))), none] [] (MU h (x + 1) I A) 0 0 := by
    intro k1
    refine go (cut1 66) 60 38 _ _ _ _ _ ?_
    refine m_here hS e17 eB h120 pB ?_
    rw [e5]
    refine And.intro (fun c1 => ?_) (fun c1 => key2 k1 (fun z => c1 z.1))
    refine icg (b := nb) (a := 0) rfl ((MU_fI _ _ _ _ _).trans e19) (by omega) (by omega) (fun c2 => key2 k1 (fun z => by omega)) (fun c2 => ?_)
    refine n0 ((MU_fI _ _ _ _ _).trans e21) (by omega) (fun c3 => ?_) (fun c3 => key2 k1 (fun z => by omega))
    rw [if_neg k1, if_pos ⟨c1, c2, c3⟩] at hf hg
    exact m_readsRest hS hM' (by omega) (fun f q I' A' r1 r2 r3 r4 r5 => And.intro (Or.inl rfl) (hf f q I' A' r1 r2 r3 r4 r5)) (fun S' I' A' r1 r2 => And.intro (Or.inr rfl) (hg S' I' A' r1 r2))
  have key0 : ∀ v : Int32, (v = 1 ∧ nr = 0 ∧ nc = 0) ∨ (v = 0 ∧ ¬ (nr = 0 ∧ nc = 0)) → Wm 19 [some (.inr (.inr (8, x + 1))), none] [.inl v] (MU h (x + 1) I A) 0 0 := by
    intro v hv
    refine go (cut1 38) 60 19 _ _ _ _ _ ?_
    refine m_here hS e17 eB h120 pB ?_
    rw [e5]
    refine And.intro (fun c1 => ?_) (fun c1 => wk _ _ _ _ _ _ _ (key1 (fun z => c1 z.1)) (by repeat (first | exact ln | refine l0 ?_ | refine l1 rfl ?_)))
    rcases hv with ⟨rfl, hv⟩ | ⟨rfl, hv⟩
    · refine br1 ?_
      rw [if_pos ⟨c1, hv⟩] at hf hg
      exact m_readsBlock hS hM' (letR_lt c1 (by decide)) (fun f q I' A' r1 r2 r3 r4 r5 => And.intro (Or.inl rfl) (hf f q I' A' r1 r2 r3 r4 r5)) (fun S' I' A' r1 r2 => And.intro (Or.inr rfl) (hg S' I' A' r1 r2))
    · exact br0 (wk _ _ _ _ _ _ _ (key1 (fun z => hv z.2)) (by repeat (first | exact ln | refine l0 ?_ | refine l1 rfl ?_)))
  refine cq (b := 0) ((MU_fI _ _ _ _ _).trans e20) (by omega) (by omega) (fun c1 => ?_) (fun c1 => key0 0 (Or.inr ⟨rfl, fun z => c1 z.1⟩))
  exact n0 ((MU_fI _ _ _ _ _).trans e21) (by omega) (fun c2 => key0 1 (Or.inl ⟨rfl, c1, c2⟩)) (fun c2 => key0 0 (Or.inr ⟨rfl, fun z => by omega⟩))
theorem sgR_i {α : Type} {t : Nat → Int32} {B p : Nat} {c : Int32} {k : Nat → (Int32 × Nat) ⊕ α} {s : α} (h : sgR t B p c k = .inr s) : letR t B p = c ∧ k (p + 1) = .inr s := by
  unfold sgR at h
  split at h
  · next e => exact ⟨e, h⟩
  · cases h
theorem nuR_i {α : Type} {t : Nat → Int32} {B p : Nat} {lo hi : Int32} {k : Int32 → Nat → (Int32 × Nat) ⊕ α} {s : α} (h : nuR t B p lo hi k = .inr s) : ∃ v q, numR t B p lo hi = .inr (v, q) ∧ k v q = .inr s := by
  unfold nuR at h
  split at h
  · cases h
  · next v q e => exact ⟨v, q, e, h⟩
theorem blockR_lt {t : Nat → Int32} {S S' : PS} (h : blockR t B S = .inr S') : S.1 < S'.1 := by
  obtain ⟨p, nb, nr, nc, ch, on, ki, ha⟩ := S
  unfold blockR at h
  dsimp only at h
  split at h
  · cases h
  · obtain ⟨v, q, h1, h⟩ := nuR_i h
    obtain ⟨h2, h⟩ := sgR_i h
    cases h
    have := (numR_r h1).2.1
    show p < q + 1
    omega
theorem clerkR_lt {t : Nat → Int32} {S S' : PS} (h : clerkR t B S = .inr S') : S.1 < S'.1 := by
  obtain ⟨p, nb, nr, nc, ch, on, ki, ha⟩ := S
  unfold clerkR at h
  dsimp only at h
  split at h
  · cases h
  split at h
  · cases h
  · obtain ⟨v, q, h1, h⟩ := nuR_i h
    obtain ⟨h2, h⟩ := sgR_i h
    cases h
    have := (numR_r h1).2.1
    show p < q + 1
    omega
theorem restR_lt {t : Nat → Int32} {S S' : PS} (h : restR t B S = .inr S') : S.1 < S'.1 := by
  obtain ⟨p, nb, nr, nc, ch, on, ki, ha⟩ := S
  unfold restR at h
  dsimp only at h
  split at h
  · cases h
  · obtain ⟨v, q, h1, h⟩ := nuR_i h
    obtain ⟨h2, h⟩ := sgR_i h
    obtain ⟨w, r, h3, h⟩ := nuR_i h
    split at h
    · cases h
    · obtain ⟨h4, h⟩ := sgR_i h
      cases h
      have := (numR_r h1).2.1
      have := (numR_r h3).2.1
      show p < r + 1
      omega
theorem itemR_lt {t : Nat → Int32} {S S' : PS} (h : itemR t B S = .inr S') : S.1 < S'.1 := by
  unfold itemR at h
  split at h
  · exact blockR_lt h
  split at h
  · exact restR_lt h
  split at h
  · exact clerkR_lt h
  · cases h
def parR (t : Nat → Int32) (B : Nat) : (Int32 × Nat) ⊕ (Int32 × Int32 × PS) := match lawR t B with
  | .inl e => .inl e
  | .inr (v, w, q) => match finR t B (B + 1) (q, 0, 0, 0, zf, zf, zf, zf) with
    | .inl e => .inl e
    | .inr S => .inr (v, w, S)
theorem m_reads (hS : MSh h (x + 1)) (hB : I 704 = nI B) (h120 : B ≤ 120) (hf : KF kk h x I A (parR (A 705) B)) (hg : ∀ v w S I' A', parR (A 705) B = .inr (v, w, S) → RM I A B v w S I' A' → kk (some (.inl 1)) (MU h (x + 1) I' A')) : CL (d + 6) mX7_reads 0 0 [.inr (.inr (8, x + 1))] (MU h (x + 1) I A) kk := by
  refine mw3 T_X7_reads (fun Wm go wk => go (cut2 20 25) 60 0 _ _ _ _ _ ?_)
  refine wmc (Wm := Wm) (h' := MU h (x + 1) (upd (upd (upd (upd I 717 0) 719 0) 720 0) 721 0) A) ?_ rfl (by rw [MU_wI, MU_wI, MU_wI, MU_wI])
  have out0 : ∀ I' A', (kk (some (.inl 0)) (MU h (x + 1) I' A')) → Wm 25 [some (.inr (.inr (8, x + 1))), some (.inl 0)] [] (MU h (x + 1) I' A') 0 0 := by
    intro I' A' hk
    exact go cut0 60 25 _ _ _ _ _ (br0 (And.intro (Or.inl rfl) hk))
  have loop : ∀ f S v w I' A', B - S.1 < f → RM I A B v w S I' A' → (∀ e, finR (A 705) B f S = .inl e → parR (A 705) B = .inl e) → (∀ S', finR (A 705) B f S = .inr S' → parR (A 705) B = .inr (v, w, S')) → Wm 25 [some (.inr (.inr (8, x + 1))), some (.inl 1)] [] (MU h (x + 1) I' A') 0 0 := by
    intro f
    induction f with
    | zero => intro S v w I' A' h0; omega
    | succ f ih =>
      intro S v w I' A' h0 hM r0 r1
      have hM' := hM
      obtain ⟨⟨hE, hR, -, -⟩, ⟨e17, pB⟩, ⟨e19, n8⟩, -⟩ := hM
      have step : (S.2.1 = 0 ∨ S.1 < B) → Wm 47 [some (.inr (.inr (8, x + 1))), some (.inl 1)] [] (MU h (x + 1) I' A') 0 0 := by
        intro c
        have r0 : ∀ e, (match itemR (A 705) B S with | .inl e => Sum.inl e | .inr S' => finR (A 705) B f S') = .inl e → parR (A 705) B = .inl e := by
          intro e he
          refine r0 e ?_
          show (if _ then _ else _) = _
          rw [if_pos c]; exact he
        have r1 : ∀ S', (match itemR (A 705) B S with | .inl e => Sum.inl e | .inr S' => finR (A 705) B f S') = .inr S' → parR (A 705) B = .inr (v, w, S') := by
          intro e he
          refine r1 e ?_
          show (if _ then _ else _) = _
          rw [if_pos c]; exact he
        refine go (cut1 25) 60 47 _ _ _ _ _ ?_
        refine m_readsItem hS hM' c (fun ff q J C z1 z2 z3 z4 z5 => ?_) (fun S' J C z1 z2 => ?_)
        · rw [z1] at r0
          exact out0 _ _ (hf ff q J C (r0 _ rfl) z2 z3 z4 z5)
        · rw [z1] at r0 r1
          have := itemR_lt z1
          have hb : S'.1 ≤ B := z2.2.1.2
          have hb0 : B - S'.1 < f := by
            have h1 : B - S.1 < f + 1 := h0
            have h2 : S'.1 ≤ B := hb
            have h3 : S.1 < S'.1 := this
            omega
          exact ih S' v w J C hb0 z2 r0 r1
      refine go (cut1 47) 60 25 _ _ _ _ _ ?_
      refine br1 ?_
      refine n0 ((MU_fI _ _ _ _ _).trans e19) n8 (fun c => step (Or.inl c)) (fun c => ?_)
      have pb : S.1 ≤ 120 := Nat.le_trans pB h120
      refine icg (a := S.1) (b := B) ((MU_fI _ _ _ _ _).trans e17) ((MU_fI _ _ _ _ _).trans ((hE 704 (by omega)).trans hB)) (Nat.lt_of_le_of_lt pb (by decide)) (Nat.lt_of_le_of_lt h120 (by decide)) (fun c2 => ?_) (fun c2 => step (Or.inr c2))
      refine And.intro (Or.inr rfl) (hg v w S I' A' (r1 S ?_) hM')
      show (if _ then _ else _) = _
      rw [if_neg]
      intro z
      rcases z with z | z
      · exact Nat.lt_irrefl 0 (by rw [z] at c; exact c)
      · exact Nat.lt_irrefl _ (Nat.lt_of_lt_of_le z c2)
  refine go (cut1 25) 60 20 _ _ _ _ _ ?_
  refine m_readsLaw (I0 := I) (A0 := A) hS (((((show EI I I from fun _ _ => rfl).u (by omega)).u (by omega)).u (by omega)).u (by omega)) (fun _ _ => rfl) hB h120 rfl rfl rfl rfl (fun f q J C z1 z2 z3 z4 z5 => ?_) (fun v w q J C z1 z2 => ?_)
  · refine out0 _ _ (hf f q J C ?_ z2 z3 z4 z5)
    unfold parR; rw [z1]
  · refine loop (B + 1) (q, 0, 0, 0, zf, zf, zf, zf) v w J C (by show B - q < B + 1; omega) z2 (fun e he => ?_) (fun S' he => ?_)
    · unfold parR; rw [z1]; dsimp only; rw [he]
    · unfold parR; rw [z1]; dsimp only; rw [he]
end M13
