/-! ===== the class: rows ===== -/
/-- the row r is missing, or has s items -/
def RLr (V : Nat → Nat → Int32) (r : Nat) (o : Option Nat) : Prop := (o = none ∧ V 302 (310 + r) = -1) ∨ ∃ s, o = some s ∧ s ≤ 40 ∧ V 302 (310 + r) = nI s
def RLs (V : Nat → Nat → Int32) (rs : Nat → Option Nat) : Prop := ∀ r, r < 8 → RLr V r (rs r)
theorem wms {Wm : Nx} {pc cu su : Nat} {L L' : Lo} {S S' : List pv} {h h' : hp} (hk : Wm pc L' S' h' cu su) (e1 : L = L') (e2 : S = S') (e3 : h = h') : Wm pc L S h cu su := by subst e1; subst e2; subst e3; exact hk
section C19
variable {d y n cm r s q : Nat} {H : hp} {K : Nat → Nat} {V W : Nat → Nat → Int32} {kk : Rt} {rs : Nat → Option Nat}
theorem c_hasPlaces {q' : Nat} {i k : Int32} (eq : q' = q) (hR : RW1 H K q r) (s40 : s ≤ 40) (hv : V 302 (310 + r) = nI s) (ht : isPt s i k → kk (some (.inl 1)) (CU H K V W)) (hf : ¬ isPt s i k → kk (some (.inl 0)) (CU H K V W)) : CL d mX3_hasPlaces 0 0 [.inr (.inr (4, q')), .inl i, .inl k] (CU H K V W) kk := by
  subst eq
  obtain ⟨q, rfl⟩ : ∃ w, q' = w + 1 := ⟨q' - 1, by have := hR.1; omega⟩
  have r8 := hR.2.2.2
  refine mw T_X3_hasPlaces (fun Wm go => go cut0 80 0 _ _ _ _ _ ?_)
  refine And.intro (fun c1 => And.intro (Or.inl rfl) (hf (fun z => z0.mpr z.1 c1))) (fun c1 => And.intro (fun c2 => And.intro (Or.inl rfl) (hf (fun z => z0.mpr z.2.1 c2))) (fun c2 => ?_))
  have y1 := z0.mp c1
  have y2 := z0.mp c2
  obtain ⟨k', hk', rfl⟩ := nI_of (x := k) c2
  have el : hfI (CU H K V W) 302 (q + 1) = nI s := (CU_fI hR.2.1 (by omega)).trans hv
  have e2 : (hfI (CU H K V W) 302 (q + 1) - nI k').toInt = (s : Int) - k' := by
    rw [el]
    by_cases hb : k' < 2 ^ 30
    · exact pk_sub_toInt (by omega) hb
    · have e3 : (nI s).toInt = s := nI_toInt (by omega)
      have e4 : (nI k').toInt = k' := nI_toInt hk'
      rw [Int32.toInt_sub, e3, e4]
      apply Int.bmod_eq_of_le <;> omega
  refine And.intro (fun c3 => And.intro (Or.inl rfl) (hf (fun z => ?_))) (fun c3 => And.intro (Or.inr rfl) (ht ⟨y1, y2, ?_⟩))
  · have c3 : hfI (CU H K V W) 302 (q + 1) - nI k' < i := c3
    rw [Int32.lt_iff_toInt_lt, e2] at c3
    have := z.2.2
    rw [nI_toInt hk'] at this
    omega
  · have c3 : ¬ hfI (CU H K V W) 302 (q + 1) - nI k' < i := c3
    rw [Int32.lt_iff_toInt_lt, e2] at c3
    rw [nI_toInt hk']
    omega
theorem nI_neg {s : Nat} (hs : s ≤ 1000) : ¬ nI s < 0 := Int32.not_lt.mpr ((nI_leI (a := 0) (by omega) (by omega)).mpr (Nat.zero_le s))
theorem c_lackOf {q' : Nat} {i k : Int32} {o : Option Nat} (eq : q' = q) (hR : RW1 H K q r) (hL : RLr V r o) (hn : o = none → kk (some (.inl 1)) (CU H K V W)) (hp : ∀ s, o = some s → s ≤ 40 → ¬ isPt s i k → kk (some (.inl 2)) (CU H K V W)) (hg : ∀ s, o = some s → s ≤ 40 → isPt s i k → kk (some (.inl 0)) (CU H K V W)) : CL (d + 1) mX3_lackOf 0 0 [.inr (.inr (4, q')), .inl i, .inl k] (CU H K V W) kk := by
  subst eq
  obtain ⟨q, rfl⟩ : ∃ w, q' = w + 1 := ⟨q' - 1, by have := hR.1; omega⟩
  refine mw T_X3_lackOf (fun Wm go => go cut0 80 0 _ _ _ _ _ ?_)
  rcases hL with ⟨l1, l2⟩ | ⟨s, l1, l2, l3⟩
  · refine c_isMissing rfl hR (fun _ => br1 (hn l1)) (fun z => absurd (by rw [l2]; decide) z)
  · refine c_isMissing rfl hR (fun z => absurd z (by rw [l3]; exact nI_neg (by omega))) (fun _ => br0 ?_)
    exact c_hasPlaces rfl hR l2 l3 (fun w => br1 (hg s l1 l2 w)) (fun w => br0 (hp s l1 l2 w))
theorem c_lowestBits {q' : Nat} {v : Int32} (eq : q' = q) (hR : RW1 H K q r) (hk : kk (some (.inl (cutI (V 301 (310 + r)) v))) (CU H K V W)) : CL d mX3_lowestBits 0 0 [.inr (.inr (4, q')), .inl v] (CU H K V W) kk := by
  subst eq
  obtain ⟨q, rfl⟩ : ∃ w, q' = w + 1 := ⟨q' - 1, by have := hR.1; omega⟩
  have r8 := hR.2.2.2
  have e : hfI (CU H K V W) 301 (q + 1) = V 301 (310 + r) := CU_fI hR.2.1 (by omega)
  refine mw T_X3_lowestBits (fun Wm go => go cut0 80 0 _ _ _ _ _ ?_)
  refine And.intro (fun c1 => ?_) (fun c1 => And.intro (fun c2 => ?_) (fun c2 => ?_))
  · rw [e] at c1
    exact kki hk (by unfold cutI; rw [if_pos c1]) rfl
  · rw [e] at c1 c2
    exact kki hk (by unfold cutI; rw [if_neg c1, if_pos c2]) rfl
  · rw [e] at c1 c2
    exact kki hk (by unfold cutI; rw [if_neg c1, if_neg c2]) rfl
/-- a row begins anew -/
abbrev rbV (V : Nat → Nat → Int32) (r : Nat) (la : Int32) (s : Nat) : Nat → Nat → Int32 := up2 (up2 V 301 (310 + r) la) 302 (310 + r) (nI s)
theorem c_rbegin {q' : Nat} {la : Int32} (eq : q' = q) (hK : KI K) (hR : RW1 H K q r) (s40 : s ≤ 40) (hk : ∀ W', (∀ t, t ≠ 300 + r → W' t = W t) → (∀ j, j < 40 → W' (300 + r) j = 0) → kk none (CU H K (rbV V r la s) W')) : CL (d + 1) mX3_begin 0 0 [.inr (.inr (4, q')), .inl la, .inl (nI s)] (CU H K V W) kk := by
  subst eq
  obtain ⟨q, rfl⟩ : ∃ w, q' = w + 1 := ⟨q' - 1, by have := hR.1; omega⟩
  obtain ⟨-, r1, ⟨a1, a2, a3⟩, r8⟩ := hR
  have e : (if (40 : Int32) < nI s then 40 else nI s) = nI s := by
    rw [if_neg]
    exact Int32.not_lt.mpr ((nI_leI (b := 40) (by omega) (by omega)).mpr s40)
  refine mw3 T_X3_begin (fun Wm go wk => go (cut1 12) 60 0 _ _ _ _ _ ?_)
  refine wms (Wm := Wm) (L' := [some (.inr (.inr (4, q + 1))), some (.inl la), some (.inl (nI s)), none]) (S' := [.inl (nI s), .inr (.inr (4, q + 1))]) (h' := CU H K (up2 V 301 (310 + r) la) W) ?_ rfl ?_ ?_
  rotate_left
  · show [Sum.inl (if (40 : Int32) < nI s then 40 else nI s), Sum.inr (Sum.inr (4, q + 1))] = _
    rw [e]
  · exact CU_wI hK r1 (by omega)
  refine go (cut1 17) 60 12 _ _ _ _ _ ?_
  refine wmc (Wm := Wm) (L' := [some (.inr (.inr (4, q + 1))), some (.inl la), some (.inl (nI s)), some (.inl (nI 0))]) (h' := CU H K (rbV V r la s) W) ?_ rfl (CU_wI hK r1 (by omega))
  refine upto (n := 40) (P := fun k => ∀ W', (∀ t, t ≠ 300 + r → W' t = W t) → (∀ j, j < k → W' (300 + r) j = 0) → Wm 17 [some (.inr (.inr (4, q + 1))), some (.inl la), some (.inl (nI s)), some (.inl (nI k))] [] (CU H K (rbV V r la s) W') 0 0) (fun k hkn ih W' w1 w2 => ?_) 0 (Nat.zero_le _) W (fun _ _ => rfl) (fun j hj => absurd hj (Nat.not_lt_zero j))
  refine go (cut1 17) 60 17 _ _ _ _ _ ?_
  refine icg rfl (show (40 : Int32) = nI 40 from rfl) (by omega) (by omega) (fun c => ?_) (fun c => ?_)
  · have e : k = 40 := by omega
    subst e
    exact hk W' w1 w2
  · refine cst hK a1 a2 (by omega) a3 (by omega) k rfl c ?_
    have e := ih c (va_up W' (300 + r) (upd (W' (300 + r)) k 0)) (fun t ht => (va_up_ne _ _ ht).trans (w1 t ht)) (fun j hj => ?_)
    · rw [← nI_1] at e
      exact e
    · rw [va_up_self]
      unfold upd
      by_cases c2 : j = k
      · rw [if_pos c2]
      · rw [if_neg c2]; exact w2 j (by omega)
theorem c_rdrop {q' : Nat} (eq : q' = q) (hK : KI K) (hR : RW1 H K q r) (hk : kk none (CU H K (up2 V 302 (310 + r) (-1)) W)) : CL d mX3_drop 0 0 [.inr (.inr (4, q'))] (CU H K V W) kk := by
  subst eq
  obtain ⟨q, rfl⟩ : ∃ w, q' = w + 1 := ⟨q' - 1, by have := hR.1; omega⟩
  have r8 := hR.2.2.2
  refine mw T_X3_drop (fun Wm go => go cut0 40 0 _ _ _ _ _ ?_)
  exact kkc hk rfl (CU_wI hK hR.2.1 (by omega))
end C19
