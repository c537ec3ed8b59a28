/-! ===== the reference: asks ===== -/
theorem uu (I : Nat → Int32) (k : Nat) (v w : Int32) : upd (upd I k v) k w = upd I k w := by
  funext j
  unfold upd
  split <;> rfl
theorem up_sw {α : Type} {f g : Nat} (hfg : f ≠ g) (A : Nat → α) (a b c : α) : va_up (va_up (va_up A f a) g b) f c = va_up (va_up A f c) g b := by
  funext j
  unfold va_up
  by_cases h1 : j = f
  · subst h1
    rw [if_pos rfl, if_neg hfg, if_pos rfl]
  · rw [if_neg h1, if_neg h1, if_neg h1]
def wrL (t : Nat → Int32) (bs : List Int32) : Nat → Int32 := fun j => (bs[j]?).getD (t j)
theorem wrL_0 (t : Nat → Int32) : wrL t [] = t := rfl
theorem wrL_s (t : Nat → Int32) (bs : List Int32) (b : Int32) : wrL t (bs ++ [b]) = upd (wrL t bs) bs.length b := by
  funext j
  unfold wrL upd
  by_cases h : j = bs.length
  · subst h
    rw [if_pos rfl, List.getElem?_append_right (Nat.le_refl _), Nat.sub_self]
    rfl
  · rw [if_neg h]
    by_cases h2 : j < bs.length
    · rw [List.getElem?_append_left h2]
    · show _ = (bs[j]?).getD (t j)
      rw [List.getElem?_eq_none (l := bs ++ [b]) (by rw [List.length_append, List.length_singleton]; omega), List.getElem?_eq_none (l := bs) (by omega)]
abbrev isOfP (kind as' : Int32) : Prop := as' = 0 ∨ as' = kind ∨ (as' = 1 ∧ (kind = 1 ∨ kind = 2 ∨ kind = 3)) ∨ (as' = 4 ∧ kind = 5)
abbrev bsV (kind hand : Int32) : Int32 := if kind = 4 then hand - 100 else 2 * (hand - 100)
abbrev bsL (kind : Int32) : List Int32 := if kind = 4 then [13, 10] else [14, 13, 10]
abbrev mkV (kind hand num lines : Int32) : Int32 := if kind = 1 then num + lines else if kind = 2 then 2 * (num + lines) else if kind = 3 then num + lines - 1000 else num - bsV kind hand
abbrev mkL (kind : Int32) : List Int32 := if kind = 1 then [21, 20] else if kind = 2 then [24, 21, 20] else if kind = 3 then [22, 21, 20] else [23, 20] ++ bsL kind
abbrev szV (kind hand num lines : Int32) : Int32 := if kind = 1 then hand + mkV kind hand num lines else if kind = 2 then -(hand + mkV kind hand num lines) else if kind = 3 then hand + mkV kind hand num lines else bsV kind hand
abbrev szL (kind : Int32) : List Int32 := if kind = 1 then [11, 10] ++ mkL kind else if kind = 2 then [12, 11, 10] ++ mkL kind else if kind = 3 then [11, 10] ++ mkL kind else bsL kind
/-- the heap with a trace -/
abbrev TR (h : hp) (x : Nat) (I : Nat → Int32) (A : Nat → Nat → Int32) (bs : List Int32) : hp := MU h x (upd I 737 (nI bs.length)) (va_up A 738 (wrL (A 738) bs))
section M8
variable {d x n cm at' am by' tm c : Nat} {h : hp} {I : Nat → Int32} {A : Nat → Nat → Int32} {kk : Rt} {bs : List Int32}
theorem m_leaves {b : Int32} (hS : MSh h (x + 1)) (hl : bs.length < 16) (hk : kk none (TR h (x + 1) I A (bs ++ [b]))) : CL d mX7_leaves 0 0 [.inr (.inr (8, x + 1)), .inl b] (TR h (x + 1) I A bs) kk := by
  refine mw T_X7_leaves (fun Wm go => go cut0 80 0 _ _ _ _ _ ?_)
  have e : hfI (TR h (x + 1) I A bs) 737 (x + 1) = nI bs.length := MU_fI _ _ _ _ _
  refine icg e (show (16 : Int32) = nI 16 from rfl) (by omega) (by omega) (fun z => by omega) (fun z => ?_)
  refine mstk (f := 738) hS (by decide) bs.length e hl ?_
  refine kkc hk rfl ?_
  rw [MU_wI, MU_fI]
  show MU h (x + 1) (upd (upd I 737 (nI bs.length)) 737 (nI bs.length + 1)) (va_up (va_up A 738 (wrL (A 738) bs)) 738 (upd (wrL (A 738) bs) bs.length b)) = _
  rw [uu, bx_uu, nI_1, ← wrL_s]
  show _ = MU h (x + 1) (upd I 737 (nI (bs ++ [b]).length)) _
  rw [List.length_append, List.length_singleton]
theorem m_body10 (hS : MSh h (x + 1)) (hc : c < 4) (hl : bs.length < 16) (hk : kk (some (.inl (A 713 c))) (TR h (x + 1) I A (bs ++ [10]))) : CL (d + 1) mX7_body10 0 0 [.inr (.inr (8, x + 1)), .inl (nI c)] (TR h (x + 1) I A bs) kk := by
  refine mw T_X7_body10 (fun Wm go => go cut0 80 0 _ _ _ _ _ ?_)
  refine m_leaves hS hl ?_
  exact mldk (f := 713) hS (by decide) c rfl hc hk
theorem m_body13 (hS : MSh h (x + 1)) (hc : c < 4) (hl : bs.length < 15) (hk : kk (some (.inl (A 713 c - 100))) (TR h (x + 1) I A (bs ++ [13] ++ [10]))) : CL (d + 2) mX7_body13 0 0 [.inr (.inr (8, x + 1)), .inl (nI c)] (TR h (x + 1) I A bs) kk := by
  refine mw T_X7_body13 (fun Wm go => go cut0 80 0 _ _ _ _ _ ?_)
  refine m_leaves hS (by omega) ?_
  exact m_body10 hS hc (by rw [List.length_append, List.length_singleton]; omega) hk
theorem m_boySize (hS : MSh h (x + 1)) (hc : c < 4) (hl : bs.length < 14) (hk : kk (some (.inl (bsV (A 714 c) (A 713 c)))) (TR h (x + 1) I A (bs ++ bsL (A 714 c)))) : CL (d + 3) mX7_boySize 0 0 [.inr (.inr (8, x + 1)), .inl (nI c)] (TR h (x + 1) I A bs) kk := by
  refine mw T_X7_boySize (fun Wm go => go cut0 80 0 _ _ _ _ _ ?_)
  refine mldk (f := 714) hS (by decide) c rfl hc ?_
  refine And.intro (fun z => ?_) (fun z => ?_)
  · have z : A 714 c = 4 := z
    unfold bsV bsL at hk
    rw [if_pos z, if_pos z] at hk
    refine m_body13 hS hc (by omega) ?_
    rw [List.append_assoc]
    exact hk
  · have z : ¬ A 714 c = 4 := z
    unfold bsV bsL at hk
    rw [if_neg z, if_neg z] at hk
    refine m_leaves hS (by omega) ?_
    refine m_body13 hS hc (by rw [List.length_append, List.length_singleton]; omega) ?_
    rw [List.append_assoc, List.append_assoc]
    exact hk
theorem m_body20 {num : Int32} (hS : MSh h (x + 1)) (hl : bs.length < 16) (hk : kk (some (.inl num)) (TR h (x + 1) I A (bs ++ [20]))) : CL (d + 1) mX7_body20 0 0 [.inr (.inr (8, x + 1)), .inl num] (TR h (x + 1) I A bs) kk := by
  refine mw T_X7_body20 (fun Wm go => go cut0 80 0 _ _ _ _ _ ?_)
  exact m_leaves hS hl hk
theorem m_body21 (hS : MSh h (x + 1)) (hc : c < 4) (hl : bs.length < 15) (hk : kk (some (.inl (nI c + A 715 (8 + c)))) (TR h (x + 1) I A (bs ++ [21, 20]))) : CL (d + 2) mX7_body21 0 0 [.inr (.inr (8, x + 1)), .inl (nI c)] (TR h (x + 1) I A bs) kk := by
  refine mw T_X7_body21 (fun Wm go => go cut0 80 0 _ _ _ _ _ ?_)
  refine m_leaves hS (by omega) ?_
  refine m_body20 hS (by rw [List.length_append, List.length_singleton]; omega) ?_
  rw [List.append_assoc]
  exact mldk (f := 715) hS (by decide) (8 + c) (nI_add 8 c) (by show 8 + c < 14; omega) hk
theorem m_markOf (hS : MSh h (x + 1)) (hc : c < 4) (hl : bs.length < 11) (hk : kk (some (.inl (mkV (A 714 c) (A 713 c) (nI c) (A 715 (8 + c))))) (TR h (x + 1) I A (bs ++ mkL (A 714 c)))) : CL (d + 4) mX7_markOf 0 0 [.inr (.inr (8, x + 1)), .inl (nI c)] (TR h (x + 1) I A bs) kk := by
  refine mw T_X7_markOf (fun Wm go => go cut0 80 0 _ _ _ _ _ ?_)
  refine mldk (f := 714) hS (by decide) c rfl hc ?_
  have l1 : ∀ b : Int32, (bs ++ [b]).length < 12 := fun b => by rw [List.length_append, List.length_singleton]; omega
  refine And.intro (fun z1 => ?_) (fun z1 => And.intro (fun z2 => ?_) (fun z2 => And.intro (fun z3 => ?_) (fun z3 => ?_)))
  · have z1 : A 714 c = 1 := z1
    unfold mkV mkL at hk
    rw [if_pos z1, if_pos z1] at hk
    exact m_body21 hS hc (by omega) hk
  · have z1 : ¬ A 714 c = 1 := z1
    have z2 : A 714 c = 2 := z2
    unfold mkV mkL at hk
    rw [if_neg z1, if_neg z1, if_pos z2, if_pos z2] at hk
    refine m_leaves hS (by omega) ?_
    refine m_body21 hS hc (by have := l1 24; omega) ?_
    rw [List.append_assoc]
    exact hk
  · have z1 : ¬ A 714 c = 1 := z1
    have z2 : ¬ A 714 c = 2 := z2
    have z3 : A 714 c = 3 := z3
    unfold mkV mkL at hk
    rw [if_neg z1, if_neg z1, if_neg z2, if_neg z2, if_pos z3, if_pos z3] at hk
    refine m_leaves hS (by omega) ?_
    refine m_body21 hS hc (by have := l1 22; omega) ?_
    rw [List.append_assoc]
    exact hk
  · have z1 : ¬ A 714 c = 1 := z1
    have z2 : ¬ A 714 c = 2 := z2
    have z3 : ¬ A 714 c = 3 := z3
    unfold mkV mkL at hk
    rw [if_neg z1, if_neg z1, if_neg z2, if_neg z2, if_neg z3, if_neg z3] at hk
    refine m_leaves hS (by omega) ?_
    refine m_body20 hS (by have := l1 23; omega) ?_
    rw [List.append_assoc]
    refine m_boySize hS hc (by rw [List.length_append]; show bs.length + 2 < 14; omega) ?_
    rw [List.append_assoc]
    exact hk
theorem m_body11 (hS : MSh h (x + 1)) (hc : c < 4) (hl : bs.length < 9) (hk : kk (some (.inl (A 713 c + mkV (A 714 c) (A 713 c) (nI c) (A 715 (8 + c))))) (TR h (x + 1) I A (bs ++ ([11, 10] ++ mkL (A 714 c))))) : CL (d + 5) mX7_body11 0 0 [.inr (.inr (8, x + 1)), .inl (nI c)] (TR h (x + 1) I A bs) kk := by
  refine mw T_X7_body11 (fun Wm go => go cut0 80 0 _ _ _ _ _ ?_)
  refine m_leaves hS (by omega) ?_
  refine m_body10 hS hc (by rw [List.length_append, List.length_singleton]; omega) ?_
  rw [List.append_assoc]
  refine m_markOf hS hc (by rw [List.length_append]; show bs.length + 2 < 11; omega) ?_
  rw [List.append_assoc]
  exact hk
theorem m_sizeOf (hS : MSh h (x + 1)) (hc : c < 4) (hl : bs.length < 8) (hk : kk (some (.inl (szV (A 714 c) (A 713 c) (nI c) (A 715 (8 + c))))) (TR h (x + 1) I A (bs ++ szL (A 714 c)))) : CL (d + 6) mX7_sizeOf 0 0 [.inr (.inr (8, x + 1)), .inl (nI c)] (TR h (x + 1) I A bs) kk := by
  refine mw T_X7_sizeOf (fun Wm go => go cut0 80 0 _ _ _ _ _ ?_)
  refine mldk (f := 714) hS (by decide) c rfl hc ?_
  have l1 : ∀ b : Int32, (bs ++ [b]).length < 9 := fun b => by rw [List.length_append, List.length_singleton]; omega
  refine And.intro (fun z1 => ?_) (fun z1 => And.intro (fun z2 => ?_) (fun z2 => And.intro (fun z3 => ?_) (fun z3 => ?_)))
  · have z1 : A 714 c = 1 := z1
    unfold szV szL at hk
    rw [if_pos z1, if_pos z1] at hk
    exact m_body11 hS hc (by omega) hk
  · have z1 : ¬ A 714 c = 1 := z1
    have z2 : A 714 c = 2 := z2
    unfold szV szL at hk
    rw [if_neg z1, if_neg z1, if_pos z2, if_pos z2] at hk
    refine m_leaves hS (by omega) ?_
    refine m_body11 hS hc (l1 12) ?_
    rw [List.append_assoc]
    exact hk
  · have z1 : ¬ A 714 c = 1 := z1
    have z2 : ¬ A 714 c = 2 := z2
    have z3 : A 714 c = 3 := z3
    unfold szV szL at hk
    rw [if_neg z1, if_neg z1, if_neg z2, if_neg z2, if_pos z3, if_pos z3] at hk
    exact m_body11 hS hc (by omega) hk
  · have z1 : ¬ A 714 c = 1 := z1
    have z2 : ¬ A 714 c = 2 := z2
    have z3 : ¬ A 714 c = 3 := z3
    unfold szV szL at hk
    rw [if_neg z1, if_neg z1, if_neg z2, if_neg z2, if_neg z3, if_neg z3] at hk
    exact m_boySize hS hc (by omega) hk
theorem m_ask {cl wh : Int32} (hS : MSh h (x + 1)) (hI : MIn I n cm at' am by' tm) (hb : ¬ (inB cl cm ∧ inR wh 0 1) → kk (some (.inl eBAD)) (MU h (x + 1) I A))
    (hg : ∀ c, c < cm → cl = nI c → inR wh 0 1 → kk (some (.inl (if wh = 0 then szV (A 714 c) (A 713 c) (nI c) (A 715 (8 + c)) else mkV (A 714 c) (A 713 c) (nI c) (A 715 (8 + c))))) (TR h (x + 1) I A (if wh = 0 then szL (A 714 c) else mkL (A 714 c)))) : CL (d + 7) mX7_ask 0 0 [.inr (.inr (8, x + 1)), .inl cl, .inl wh] (MU h (x + 1) I A) kk := by
  obtain ⟨⟨hn, hn8⟩, ⟨hc, hc4⟩, -⟩ := hI
  refine mw T_X7_ask (fun Wm go => go (cut1 25) 80 0 _ _ _ _ _ ?_)
  refine m_isClerk hc (by omega) (fun c1 => br1 ?_) (fun c1 => br0 (hb (fun z => c1 z.1)))
  refine m_in (fun c2 => br1 ?_) (fun c2 => br0 (hb (fun z => c2 z.2)))
  obtain ⟨c, hcc, rfl⟩ := inB_of c1 (by omega)
  have r := hg c hcc rfl c2
  have goal25 : Wm 25 [some (.inr (.inr (8, x + 1))), some (.inl (nI c)), some (.inl wh)] [] (TR h (x + 1) I A []) 0 0 := by
    refine go cut0 80 25 _ _ _ _ _ ?_
    refine And.intro (fun z => ?_) (fun z => ?_)
    · have z : wh = 0 := z
      rw [if_pos z, if_pos z] at r
      exact m_sizeOf hS (by omega) (by decide) r
    · have z : ¬ wh = 0 := z
      rw [if_neg z, if_neg z] at r
      exact m_markOf hS (by omega) (by decide) r
  refine wmc (Wm := Wm) goal25 rfl ?_
  rw [MU_wI]
  show _ = MU h (x + 1) (upd I 737 (nI 0)) (va_up A 738 (wrL (A 738) []))
  rw [wrL_0, up_id]
  rfl
theorem m_isOf {kind as' : Int32} (ht : isOfP kind as' → kk (some (.inl 1)) h) (hf : ¬ isOfP kind as' → kk (some (.inl 0)) h) : CL d mX7_isOf 0 0 [.inr (.inr (8, x + 1)), .inl kind, .inl as'] h kk := by
  refine mw T_X7_isOf (fun Wm go => go (cut1 21) 80 0 _ _ _ _ _ ?_)
  have rest : ∀ v : Int32, (v = 0 ↔ ¬ (kind = 1 ∨ kind = 2 ∨ kind = 3)) → Wm 21 [some (.inr (.inr (8, x + 1))), some (.inl kind), some (.inl as'), some (.inl v)] [] h 0 0 := by
    intro v hv
    have fin : ¬ as' = 0 → ¬ as' = kind → ¬ (as' = 1 ∧ (kind = 1 ∨ kind = 2 ∨ kind = 3)) → Wm 39 [some (.inr (.inr (8, x + 1))), some (.inl kind), some (.inl as'), some (.inl v)] [] h 0 0 := by
      intro a1 a2 a3
      refine go cut0 80 39 _ _ _ _ _ ?_
      refine And.intro (fun z => And.intro (fun z2 => And.intro (Or.inr rfl) (ht (Or.inr (Or.inr (Or.inr ⟨z, z2⟩))))) (fun z2 => And.intro (Or.inl rfl) (hf ?_))) (fun z => And.intro (Or.inl rfl) (hf ?_))
      · rintro (q | q | q | q)
        · exact a1 q
        · exact a2 q
        · exact a3 q
        · exact z2 q.2
      · rintro (q | q | q | q)
        · exact a1 q
        · exact a2 q
        · exact a3 q
        · exact z q.1
    refine go (cut1 39) 80 21 _ _ _ _ _ ?_
    refine And.intro (fun z => And.intro (Or.inr rfl) (ht (Or.inl z))) (fun z => And.intro (fun z2 => And.intro (Or.inr rfl) (ht (Or.inr (Or.inl z2)))) (fun z2 => And.intro (fun z3 => And.intro (fun z4 => ?_) (fun z4 => And.intro (Or.inr rfl) (ht (Or.inr (Or.inr (Or.inl ⟨z3, ?_⟩)))))) (fun z3 => ?_)))
    · exact fin z z2 (fun q => (hv.mp z4) q.2)
    · exact Classical.byContradiction (fun q => z4 (hv.mpr q))
    · exact fin z z2 (fun q => z3 q.1)
  refine And.intro (fun z => ?_) (fun z => And.intro (fun z2 => ?_) (fun z2 => And.intro (fun z3 => ?_) (fun z3 => ?_)))
  · exact rest 1 ⟨fun q => absurd q (by decide), fun q => absurd (Or.inl z) q⟩
  · exact rest 1 ⟨fun q => absurd q (by decide), fun q => absurd (Or.inr (Or.inl z2)) q⟩
  · exact rest 1 ⟨fun q => absurd q (by decide), fun q => absurd (Or.inr (Or.inr z3)) q⟩
  · exact rest 0 ⟨fun _ => fun q => q.elim z (fun q => q.elim z2 z3), fun _ => rfl⟩
theorem m_as {cl kd : Int32} (hS : MSh h (x + 1)) (hI : MIn I n cm at' am by' tm) (hb : ¬ (inB cl cm ∧ inR kd 0 5) → kk (some (.inl eBAD)) (MU h (x + 1) I A))
    (hg : ∀ c, c < cm → cl = nI c → inR kd 0 5 → isOfP (A 714 c) kd → kk (some (.inl (nI c))) (MU h (x + 1) (upd I 700 0) A)) (hf : ∀ c, c < cm → cl = nI c → inR kd 0 5 → ¬ isOfP (A 714 c) kd → kk (some (.inl (-1000010 - 3))) (MU h (x + 1) (upd I 700 3) A)) : CL (d + 2) mX7_as 0 0 [.inr (.inr (8, x + 1)), .inl cl, .inl kd] (MU h (x + 1) I A) kk := by
  obtain ⟨⟨hn, hn8⟩, ⟨hc, hc4⟩, -⟩ := hI
  refine mw T_X7_as (fun Wm go => go cut0 80 0 _ _ _ _ _ ?_)
  refine m_isClerk hc (by omega) (fun c1 => br1 ?_) (fun c1 => br0 (hb (fun z => c1 z.1)))
  refine m_in (fun c2 => br1 ?_) (fun c2 => br0 (hb (fun z => c2 z.2)))
  obtain ⟨c, hcc, rfl⟩ := inB_of c1 (by omega)
  refine mldk (f := 714) hS (by decide) c rfl (by show c < 4; omega) ?_
  refine m_isOf (fun z => br1 ?_) (fun z => br0 ?_)
  · exact m_well (hg c hcc rfl c2 z)
  · exact m_meets (hf c hcc rfl c2 z)
theorem m_kind {cl : Int32} (hS : MSh h (x + 1)) (hI : MIn I n cm at' am by' tm) (hb : ¬ inB cl cm → kk (some (.inl eBAD)) (MU h (x + 1) I A)) (hg : ∀ c, c < cm → cl = nI c → kk (some (.inl (A 714 c))) (MU h (x + 1) I A)) : CL (d + 2) mX7_kind 0 0 [.inr (.inr (8, x + 1)), .inl cl] (MU h (x + 1) I A) kk := by
  obtain ⟨⟨hn, hn8⟩, ⟨hc, hc4⟩, -⟩ := hI
  refine mw T_X7_kind (fun Wm go => go cut0 80 0 _ _ _ _ _ ?_)
  refine m_isClerk hc (by omega) (fun c1 => br1 ?_) (fun c1 => br0 (hb c1))
  obtain ⟨c, hcc, rfl⟩ := inB_of c1 (by omega)
  exact mldk (f := 714) hS (by decide) c rfl (by show c < 4; omega) (hg c hcc rfl)
theorem m_trace {i : Int32} (hS : MSh h (x + 1)) (hI : MIn I n cm at' am by' tm) (hb : ¬ inB i tm → kk (some (.inl eNONE)) (MU h (x + 1) I A)) (hg : ∀ c, c < tm → i = nI c → kk (some (.inl (A 738 c))) (MU h (x + 1) I A)) : CL (d + 1) mX7_trace 0 0 [.inr (.inr (8, x + 1)), .inl i] (MU h (x + 1) I A) kk := by
  obtain ⟨-, -, -, -, -, ⟨ht, ht16⟩⟩ := hI
  refine mw T_X7_trace (fun Wm go => go cut0 80 0 _ _ _ _ _ ?_)
  have e : hfI (MU h (x + 1) I A) 737 (x + 1) = nI tm := (MU_fI _ _ _ _ _).trans ht
  refine m_in (fun c => br1 ?_) (fun c => br0 (hb ?_))
  · rw [e] at c
    obtain ⟨j, hj, rfl⟩ := inB_of ((inR_B (by omega)).mp c) (by omega)
    exact mldk (f := 738) hS (by decide) j rfl (by show j < 16; omega) (hg j hj rfl)
  · rw [e] at c
    exact fun z => c ((inR_B (by omega)).mpr z)
abbrev rwC (A : Nat → Nat → Int32) : Nat → Int32 := fun r => if A 701 r < 0 then 0 else 1
theorem m_count {wh : Int32} (hS : MSh h (x + 1)) (hI : MIn I n cm at' am by' tm) (hk : kk (some (.inl (if wh = 0 then smI (rwC A) 8 else if wh = 1 then I 707 else if wh = 2 then I 708 else if wh = 3 then I 709 else if wh = 4 then A 715 13 else if wh = 5 then smI (fun k => A 715 (8 + k)) cm else if wh = 6 then I 727 else if wh = 7 then I 704 else eBAD))) (MU h (x + 1) I A)) : CL (d + 1) mX7_count 0 0 [.inr (.inr (8, x + 1)), .inl wh] (MU h (x + 1) I A) kk := by
  obtain ⟨⟨hn, hn8⟩, ⟨hc, hc4⟩, -⟩ := hI
  refine mw T_X7_count (fun Wm go => go (cut1 4) 80 0 _ _ _ _ _ ?_)
  refine upto (n := 8) (P := fun k => Wm 4 [some (.inr (.inr (8, x + 1))), some (.inl wh), some (.inl (smI (rwC A) k)), some (.inl (nI k))] [] (MU h (x + 1) I A) 0 0) (fun k hkn ih => ?_) 0 (Nat.zero_le _)
  refine go (cut1 4) 60 4 _ _ _ _ _ ?_
  refine icg rfl (show (8 : Int32) = nI 8 from rfl) (by omega) (by omega) (fun z => ?_) (fun z => ?_)
  · have e : k = 8 := by omega
    subst e
    refine And.intro (fun w0 => ?_) (fun w0 => And.intro (fun w1 => ?_) (fun w1 => And.intro (fun w2 => ?_) (fun w2 => And.intro (fun w3 => ?_) (fun w3 => And.intro (fun w4 => ?_) (fun w4 => And.intro (fun w5 => ?_) (fun w5 => And.intro (fun w6 => ?_) (fun w6 => And.intro (fun w7 => ?_) (fun w7 => ?_))))))))
    · rw [if_pos w0] at hk; exact hk
    · rw [if_neg w0, if_pos w1] at hk; exact kki hk (MU_fI _ _ _ _ _) rfl
    · rw [if_neg w0, if_neg w1, if_pos w2] at hk; exact kki hk (MU_fI _ _ _ _ _) rfl
    · rw [if_neg w0, if_neg w1, if_neg w2, if_pos w3] at hk; exact kki hk (MU_fI _ _ _ _ _) rfl
    · rw [if_neg w0, if_neg w1, if_neg w2, if_neg w3, if_pos w4] at hk; exact mldk (f := 715) hS (by decide) 13 rfl (by decide) hk
    · rw [if_neg w0, if_neg w1, if_neg w2, if_neg w3, if_neg w4, if_pos w5] at hk; exact m_allLines hS hc hc4 hk
    · rw [if_neg w0, if_neg w1, if_neg w2, if_neg w3, if_neg w4, if_neg w5, if_pos w6] at hk; exact kki hk (MU_fI _ _ _ _ _) rfl
    · rw [if_neg w0, if_neg w1, if_neg w2, if_neg w3, if_neg w4, if_neg w5, if_neg w6, if_pos w7] at hk; exact kki hk (MU_fI _ _ _ _ _) rfl
    · rw [if_neg w0, if_neg w1, if_neg w2, if_neg w3, if_neg w4, if_neg w5, if_neg w6, if_neg w7] at hk; exact hk
  · refine mldk (f := 701) hS (by decide) k rfl z ?_
    refine And.intro (fun c3 => ?_) (fun c3 => ?_)
    · have e := ih z
      rw [show smI (rwC A) (k + 1) = smI (rwC A) k + 0 by show _ + (if _ then _ else _) = _; rw [if_pos c3], ← nI_1] at e
      exact e
    · have e := ih z
      rw [show smI (rwC A) (k + 1) = smI (rwC A) k + 1 by show _ + (if _ then _ else _) = _; rw [if_neg c3], ← nI_1] at e
      exact e
end M8
