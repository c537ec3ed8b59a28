/-! ===== the reference: loads and stores, loops over blocks ===== -/
theorem MU_e (h : hp) (x : Nat) (I : Nat → Int32) (A : Nat → Nat → Int32) (f y : Nat) : hfR (MU h x I A) f y = hfR h f y := rfl
theorem mlen_lt (f : Nat) : mlen f < 2 ^ 31 := by
  unfold mlen
  split <;> decide
section ML
variable {nx : Nx} {n cu su : Nat} {L : Lo} {S : List pv} {h : hp} {x f : Nat} {I : Nat → Int32} {A : Nat → Nat → Int32} {i v : Int32}
theorem mldk (hS : MSh h x) (hf : f ∈ MF) (k : Nat) (hi : i = nI k) (hk : k < mlen f) (b : nx n L (.inl (A f k) :: S) (MU h x I A) cu su) : if hfR h f x = 0 then False else vp_in i (haL (MU h x I A) (hfR h f x)) ∧ nx n L (.inl (haI (MU h x I A) (hfR h f x) i.toNatClampNeg) :: S) (MU h x I A) cu su := by
  have hb := mlen_lt f
  subst hi
  exact nz (hS.1 f hf).1 ⟨by rw [MU_aL, (hS.1 f hf).2]; exact vp_in_nI hk hb, by rw [MU_aI hS I A hf, nI_clamp (by omega)]; exact b⟩
theorem mstk (hS : MSh h x) (hf : f ∈ MF) (k : Nat) (hi : i = nI k) (hk : k < mlen f) (b : nx n L S (MU h x I (va_up A f (upd (A f) k v))) cu su) : if hfR h f x = 0 then False else vp_in i (haL (MU h x I A) (hfR h f x)) ∧ nx n L S (waI (MU h x I A) (hfR h f x) (upd (haI (MU h x I A) (hfR h f x)) i.toNatClampNeg v)) cu su := by
  have hb := mlen_lt f
  subst hi
  exact nz (hS.1 f hf).1 ⟨by rw [MU_aL, (hS.1 f hf).2]; exact vp_in_nI hk hb, by rw [MU_aI hS I A hf, nI_clamp (by omega), MU_wA hS I A hf]; exact b⟩
end ML
theorem icg {u v : Int32} {a b : Nat} (hu : u = nI a) (hv : v = nI b) (ha : a < 2 ^ 31) (hb : b < 2 ^ 31) {X Y : Prop} (x : b ≤ a → X) (y : a < b → Y) : (v ≤ u → X) ∧ (¬ v ≤ u → Y) := by
  subst hu; subst hv
  exact ⟨fun c => x ((nI_leI hb ha).mp c), fun c => y (Nat.not_le.mp (fun z => c ((nI_leI hb ha).mpr z)))⟩
/-- loops: up to n -/
theorem upto {n : Nat} {P : Nat → Prop} (hs : ∀ k, k ≤ n → (k < n → P (k + 1)) → P k) : ∀ k, k ≤ n → P k := by
  have key : ∀ j k, n - k = j → k ≤ n → P k := by
    intro j
    induction j with
    | zero => intro k h1 h2; exact hs k h2 (fun h => by omega)
    | succ j ih => intro k h1 h2; exact hs k h2 (fun h => ih (k + 1) (by omega) (by omega))
  exact fun k hk => key _ k rfl hk
def stP (on : Nat → Int32) (p : Nat → Bool) : Nat → Int32
  | 0 => 0
  | k + 1 => stP on p k ||| (if p k = true ∧ (on k = 0 ∨ ¬ on k &&& stP on p k = 0) then 1 <<< (nI k &&& 31) else 0)
theorem stP_1 {on : Nat → Int32} {p : Nat → Bool} {k : Nat} (h : p k = true ∧ (on k = 0 ∨ ¬ on k &&& stP on p k = 0)) : stP on p (k + 1) = stP on p k ||| (1 <<< (nI k &&& 31)) := by
  show stP on p k ||| (if _ then _ else _) = _
  rw [if_pos h]
theorem stP_0 {on : Nat → Int32} {p : Nat → Bool} {k : Nat} (h : ¬ (p k = true ∧ (on k = 0 ∨ ¬ on k &&& stP on p k = 0))) : stP on p (k + 1) = stP on p k ||| 0 := by
  show stP on p k ||| (if _ then _ else _) = _
  rw [if_neg h]
abbrev posB (a : Nat → Int32) : Nat → Bool := fun k => decide (0 < a k)
theorem posB_t {a : Nat → Int32} {k : Nat} (h : ¬ a k ≤ 0) : posB a k = true := decide_eq_true (Int32.not_le.mp h)
theorem posB_f {a : Nat → Int32} {k : Nat} (h : a k ≤ 0) : ¬ posB a k = true := fun z => Int32.not_lt.mpr h (of_decide_eq_true z)
def Mof (f : Nat) : Prop := f = 715 ∨ f = 716
theorem Mof.m {f : Nat} (h : Mof f) : f ∈ MF ∧ mlen f = 14 := by rcases h with rfl | rfl <;> decide
section M2
variable {d x n : Nat} {h : hp} {I : Nat → Int32} {A : Nat → Nat → Int32} {kk : Rt}
theorem m_standing {f : Nat} {w : Nat} (hw : w = hfR h f (x + 1)) (hS : MSh h (x + 1)) (hn : I 707 = nI n) (hn8 : n ≤ 8) (hf : Mof f) (hk : kk (some (.inl (stP (A 712) (posB (A f)) n))) (MU h (x + 1) I A)) : CL d mX7_standing 0 0 [.inr (.inr (8, x + 1)), .inr (.inr (20, w))] (MU h (x + 1) I A) kk := by
  subst hw
  obtain ⟨hfm, hfl⟩ := hf.m
  refine mw T_X7_standing (fun Wm go => ?_)
  refine go (cut1 4) 20 0 _ _ _ _ _ ?_
  refine upto (n := n) (P := fun k => Wm 4 [some (.inr (.inr (8, x + 1))), some (.inr (.inr (20, hfR h f (x + 1)))), some (.inl (stP (A 712) (posB (A f)) k)), some (.inl (nI k))] [] (MU h (x + 1) I A) 0 0) (fun k hkn ih => ?_) 0 (Nat.zero_le _)
  refine go (cut1 4) 60 4 _ _ _ _ _ ?_
  refine icg rfl ((MU_fI _ _ _ _ _).trans hn) (by omega) (by omega) (fun c => ?_) (fun c => ?_)
  · have e : k = n := by omega
    subst e
    exact hk
  · refine mldk hS hfm k rfl (by omega) (And.intro (fun c2 => ?_) (fun c2 => ?_))
    · have e := ih c
      rw [stP_0 (fun z => posB_f c2 z.1), ← nI_1] at e
      exact e
    · refine mldk (f := 712) hS (by decide) k rfl (by show k < 8; omega) (And.intro (fun c3 => ?_) (fun c3 => ?_))
      · have e := ih c
        rw [stP_1 ⟨posB_t c2, Or.inl c3⟩, ← nI_1] at e
        exact e
      · refine mldk (f := 712) hS (by decide) k rfl (by show k < 8; omega) (And.intro (fun c4 => ?_) (fun c4 => ?_))
        · have e := ih c
          rw [stP_0 (fun z => z.2.elim (fun q => c3 q) (fun q => q c4)), ← nI_1] at e
          exact e
        · have e := ih c
          rw [stP_1 ⟨posB_t c2, Or.inr c4⟩, ← nI_1] at e
          exact e
/-- a set by a test -/
def mkS (q : Nat → Bool) : Nat → Int32
  | 0 => 0
  | k + 1 => mkS q k ||| (if q k = true then 1 <<< (nI k &&& 31) else 0)
theorem mkS_1 {q : Nat → Bool} {k : Nat} (h : q k = true) : mkS q (k + 1) = mkS q k ||| (1 <<< (nI k &&& 31)) := by
  show mkS q k ||| (if _ then _ else _) = _
  rw [if_pos h]
theorem mkS_0 {q : Nat → Bool} {k : Nat} (h : ¬ q k = true) : mkS q (k + 1) = mkS q k ||| 0 := by
  show mkS q k ||| (if _ then _ else _) = _
  rw [if_neg h]
theorem m_fallen {f : Nat} {w : Nat} (hw : w = hfR h f (x + 1)) (hS : MSh h (x + 1)) (hn : I 707 = nI n) (hn8 : n ≤ 8) (hf : Mof f) (hk : kk (some (.inl (mkS (fun k => posB (A f) k && !decide (hasB (stP (A 712) (posB (A f)) n) (nI k))) n))) (MU h (x + 1) I A)) : CL (d + 1) mX7_fallen 0 0 [.inr (.inr (8, x + 1)), .inr (.inr (20, w))] (MU h (x + 1) I A) kk := by
  subst hw
  obtain ⟨hfm, hfl⟩ := hf.m
  refine mw T_X7_fallen (fun Wm go => ?_)
  refine go (cut1 11) 20 0 _ _ _ _ _ ?_
  refine m_standing rfl hS hn hn8 hf ?_
  refine upto (n := n) (P := fun k => Wm 11 [some (.inr (.inr (8, x + 1))), some (.inr (.inr (20, hfR h f (x + 1)))), some (.inl (stP (A 712) (posB (A f)) n)), some (.inl (mkS (fun k => posB (A f) k && !decide (hasB (stP (A 712) (posB (A f)) n) (nI k))) k)), some (.inl (nI k))] [] (MU h (x + 1) I A) 0 0) (fun k hkn ih => ?_) 0 (Nat.zero_le _)
  refine go (cut1 11) 60 11 _ _ _ _ _ ?_
  refine icg rfl ((MU_fI _ _ _ _ _).trans hn) (by omega) (by omega) (fun c => ?_) (fun c => ?_)
  · have e : k = n := by omega
    subst e
    exact hk
  · refine mldk hS hfm k rfl (by omega) (And.intro (fun c2 => ?_) (fun c2 => ?_))
    · have e := ih c
      rw [mkS_0 (by simp [posB_f c2]), ← nI_1] at e
      exact e
    · refine m_has (fun c3 => br1 ?_) (fun c3 => br0 ?_)
      · have e := ih c
        rw [mkS_0 (by simp [c3]), ← nI_1] at e
        exact e
      · have e := ih c
        rw [mkS_1 (by rw [posB_t c2]; simp [c3]), ← nI_1] at e
        exact e
def tkB (kind hand lines day : Int32) : Int32 := if kind = 1 then hand * lines else if kind = 2 then (hand * lines + 1) / 2 else if kind = 3 then 2 * hand * lines else if kind = 4 then lines + leastI day 9 else lines + leastI day 9 + hand
theorem m_takesBy {kind hand lines day : Int32} (hk : kk (some (.inl (tkB kind hand lines day))) h) : CL (d + 1) mX7_takesBy 0 0 [.inr (.inr (8, x + 1)), .inl kind, .inl hand, .inl lines, .inl day] h kk := by
  refine mw T_X7_takesBy (fun Wm go => go cut0 40 0 _ _ _ _ _ ?_)
  refine And.intro (fun c1 => kki hk (by unfold tkB; rw [if_pos c1]) rfl) (fun c1 => And.intro (fun c2 => ?_) (fun c2 => And.intro (fun c3 => kki hk (by unfold tkB; rw [if_neg c1, if_neg c2, if_pos c3]) rfl) (fun c3 => And.intro (fun c4 => m_least (kki hk (by unfold tkB; rw [if_neg c1, if_neg c2, if_neg c3, if_pos c4]) rfl)) (fun c4 => m_least (kki hk (by unfold tkB; rw [if_neg c1, if_neg c2, if_neg c3, if_neg c4]) rfl)))))
  exact And.intro (by decide) (kki hk (by unfold tkB; rw [if_neg c1, if_pos c2]) rfl)
theorem m_takesOf {f c : Nat} {lines : Int32} {w : Nat} (hw : w = hfR h f (x + 1)) (hS : MSh h (x + 1)) (hf : Mof f) (hc : c < 4) (hk : kk (some (.inl (tkB (A 714 c) (A 713 c) lines (A f 13)))) (MU h (x + 1) I A)) : CL (d + 2) mX7_takesOf 0 0 [.inr (.inr (8, x + 1)), .inr (.inr (20, w)), .inl (nI c), .inl lines] (MU h (x + 1) I A) kk := by
  subst hw
  obtain ⟨hfm, hfl⟩ := hf.m
  refine mw T_X7_takesOf (fun Wm go => go cut0 40 0 _ _ _ _ _ ?_)
  refine mldk (f := 714) hS (by decide) c rfl hc ?_
  refine mldk (f := 713) hS (by decide) c rfl hc ?_
  refine mldk hS hfm 13 rfl (by omega) ?_
  exact m_takesBy hk
end M2
