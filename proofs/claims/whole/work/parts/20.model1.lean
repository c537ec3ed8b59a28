/-! ===== the reference's heap: its int fields I, its arrays A, by the fields' numbers ===== -/
def MF : List Nat := [701, 702, 703, 705, 712, 713, 714, 715, 716, 722, 723, 724, 725, 726, 729, 730, 731, 732, 733, 734, 735, 736, 738]
def mlen (f : Nat) : Nat := match f with
  | 701 => 8 | 702 => 8 | 703 => 320 | 705 => 120 | 712 => 8 | 713 => 4 | 714 => 4 | 715 => 14 | 716 => 14 | 722 => 2 | 723 => 8 | 724 => 8 | 725 => 4 | 726 => 4 | 729 => 336 | 730 => 8 | 731 => 2 | 732 => 10 | 733 => 16 | 734 => 8 | 735 => 8 | 736 => 28 | 738 => 16
  | _ => 0
def MU (h : hp) (x : Nat) (I : Nat → Int32) (A : Nat → Nat → Int32) : hp :=
  (fun k y => if y = x then I k else h.1 k y, h.2.1, fun y => (match MF.find? (fun f => y == h.2.1 f x) with | some f => A f | none => h.2.2.1 y), h.2.2.2)
def MSh (h : hp) (x : Nat) : Prop := (∀ f ∈ MF, hfR h f x ≠ 0 ∧ haL h (hfR h f x) = mlen f) ∧ ∀ f ∈ MF, ∀ g ∈ MF, hfR h f x = hfR h g x → f = g
theorem MU_fI (h : hp) (x : Nat) (I : Nat → Int32) (A : Nat → Nat → Int32) (k : Nat) : hfI (MU h x I A) k x = I k := by
  show (if x = x then I k else h.1 k x) = I k
  rw [if_pos rfl]
theorem MU_fR (h : hp) (x : Nat) (I : Nat → Int32) (A : Nat → Nat → Int32) : hfR (MU h x I A) = hfR h := rfl
theorem MU_aL (h : hp) (x : Nat) (I : Nat → Int32) (A : Nat → Nat → Int32) : haL (MU h x I A) = haL h := rfl
theorem MU_find {h : hp} {x : Nat} (hS : MSh h x) {f : Nat} (hf : f ∈ MF) : MF.find? (fun g => hfR h f x == h.2.1 g x) = some f := by
  cases hq : MF.find? (fun g => hfR h f x == h.2.1 g x) with
  | none => 
    have := List.find?_eq_none.mp hq f hf
    exact absurd (beq_self_eq_true (hfR h f x)) this
  | some g =>
    have h1 := List.find?_some hq
    have h2 := List.mem_of_find?_eq_some hq
    have h3 : hfR h f x = hfR h g x := eq_of_beq h1
    rw [hS.2 f hf g h2 h3]
theorem MU_aI {h : hp} {x : Nat} (hS : MSh h x) (I : Nat → Int32) (A : Nat → Nat → Int32) {f : Nat} (hf : f ∈ MF) : haI (MU h x I A) (hfR h f x) = A f := by
  show (match MF.find? (fun g => hfR h f x == h.2.1 g x) with | some f => A f | none => _) = A f
  rw [MU_find hS hf]
theorem MU_wI (h : hp) (x : Nat) (I : Nat → Int32) (A : Nat → Nat → Int32) (k : Nat) (v : Int32) : wfI (MU h x I A) k x v = MU h x (upd I k v) A := by
  unfold wfI MU
  refine Prod.ext ?_ rfl
  funext k' y
  show up2 (fun k y => if y = x then I k else h.1 k y) k x v k' y = (if y = x then upd I k v k' else h.1 k' y)
  unfold up2 upd
  by_cases hy : y = x <;> by_cases hk : k' = k <;> simp [hy, hk]
theorem MU_wA {h : hp} {x : Nat} (hS : MSh h x) (I : Nat → Int32) (A : Nat → Nat → Int32) {f : Nat} (hf : f ∈ MF) (g : Nat → Int32) : waI (MU h x I A) (hfR h f x) g = MU h x I (va_up A f g) := by
  unfold waI MU
  refine Prod.ext rfl (Prod.ext rfl (Prod.ext ?_ rfl))
  funext y
  show va_up (fun y => (match MF.find? (fun f => y == h.2.1 f x) with | some f => A f | none => h.2.2.1 y)) (hfR h f x) g y = (match MF.find? (fun f => y == h.2.1 f x) with | some q => va_up A f g q | none => h.2.2.1 y)
  by_cases hy : y = hfR h f x
  · subst hy
    rw [va_up_self, MU_find hS hf]
    exact (va_up_self _ _ _).symm
  · rw [va_up_ne _ _ hy]
    cases hq : MF.find? (fun f => y == h.2.1 f x) with
    | none => rfl
    | some q =>
      have h1 := List.find?_some hq
      have h3 : y = hfR h q x := eq_of_beq h1
      show A q = va_up A f g q
      rw [va_up_ne]
      intro e
      subst e
      exact hy h3
theorem MU_self {h : hp} {x : Nat} (hS : MSh h x) : MU h x (fun k => hfI h k x) (fun f => haI h (hfR h f x)) = h := by
  unfold MU
  refine Prod.ext ?_ (Prod.ext rfl (Prod.ext ?_ rfl))
  · funext k y
    show (if y = x then hfI h k x else h.1 k y) = h.1 k y
    split
    · next e => rw [e]; rfl
    · rfl
  · funext y
    show (match MF.find? (fun f => y == h.2.1 f x) with | some f => haI h (hfR h f x) | none => h.2.2.1 y) = h.2.2.1 y
    cases hq : MF.find? (fun f => y == h.2.1 f x) with
    | none => rfl
    | some q =>
      have h1 := List.find?_some hq
      have h3 : y = hfR h q x := eq_of_beq h1
      show haI h (hfR h q x) = h.2.2.1 y
      rw [h3]; rfl
theorem mw {y : MI} {P : Nat → Step} (T : TAB y P) {d mc ms : Nat} {as : List pv} {h : hp} {kk : Rt} (body : ∀ Wm : Nx, (∀ (cut : Nat → Bool) (n pc : Nat) (L : Lo) (S : List pv) (h : hp) (cu su : Nat), P pc CL d mc ms kk (blk P cut Wm CL d mc ms kk n) L S h cu su → Wm pc L S h cu su) → Wm 0 (largs as y.2.2.1) [] h 0 0) (ha : Nat.ble (sw as) y.2.2.1 = true := by rfl) : CL d y mc ms as h kk := mv T (Nat.le_of_ble_eq_true ha) body
theorem mw3 {y : MI} {P : Nat → Step} (T : TAB y P) {d mc ms : Nat} {as : List pv} {h : hp} {kk : Rt} (body : ∀ Wm : Nx, (∀ (cut : Nat → Bool) (n pc : Nat) (L : Lo) (S : List pv) (h : hp) (cu su : Nat), P pc CL d mc ms kk (blk P cut Wm CL d mc ms kk n) L S h cu su → Wm pc L S h cu su) → (∀ (L' : Lo) (pc : Nat) (L : Lo) (S : List pv) (h : hp) (cu su : Nat), Wm pc L' S h cu su → leL L' L → Wm pc L S h cu su) → Wm 0 (largs as y.2.2.1) [] h 0 0) (ha : Nat.ble (sw as) y.2.2.1 = true := by rfl) : CL d y mc ms as h kk := mv3 T (Nat.le_of_ble_eq_true ha) body
theorem kkc {kk : Rt} {v v' : Option pv} {h h' : hp} (hk : kk v' h') (e1 : v = v') (e2 : h = h') : kk v h := by subst e1; subst e2; exact hk
theorem kki {kk : Rt} {v v' : Int32} {h h' : hp} (hk : kk (some (.inl v')) h') (e1 : v = v') (e2 : h = h') : kk (some (.inl v)) h := by subst e1; subst e2; exact hk
theorem wmc {Wm : Nx} {pc cu su : Nat} {L L' : Lo} {S : List pv} {h h' : hp} (hk : Wm pc L' S h' cu su) (e1 : L = L') (e2 : h = h') : Wm pc L S h cu su := by subst e1; subst e2; exact hk
theorem br1 {A B : Prop} (b : B) : ((1 : Int32) = 0 → A) ∧ (¬ (1 : Int32) = 0 → B) := ⟨fun h => absurd h (by decide), fun _ => b⟩
theorem br0 {A B : Prop} (a : A) : ((0 : Int32) = 0 → A) ∧ (¬ (0 : Int32) = 0 → B) := ⟨fun _ => a, fun h => absurd rfl h⟩
abbrev cut0 : Nat → Bool := fun _ => false
abbrev cut1 (a : Nat) : Nat → Bool := fun pc => Nat.beq pc a
abbrev cut2 (a b : Nat) : Nat → Bool := fun pc => Nat.beq pc a || Nat.beq pc b
abbrev cut3 (a b c : Nat) : Nat → Bool := fun pc => Nat.beq pc a || (Nat.beq pc b || Nat.beq pc c)
abbrev inR (v lo hi : Int32) : Prop := lo ≤ v ∧ v ≤ hi
theorem m_in {d : Nat} {v lo hi : Int32} {h : hp} {kk : Rt} (ht : inR v lo hi → kk (some (.inl 1)) h) (hf : ¬ inR v lo hi → kk (some (.inl 0)) h) : CL d mX7_in 0 0 [.inl v, .inl lo, .inl hi] h kk :=
  mw T_X7_in (fun Wm go => go cut0 30 0 _ _ _ _ _ (And.intro (fun c1 => And.intro (Or.inl rfl) (hf (fun z => Int32.not_lt.mpr z.1 c1))) (fun c1 => And.intro (fun c2 => And.intro (Or.inl rfl) (hf (fun z => Int32.not_lt.mpr z.2 c2))) (fun c2 => And.intro (Or.inr rfl) (ht ⟨Int32.not_lt.mp c1, Int32.not_lt.mp c2⟩)))))
abbrev hasB (set k : Int32) : Prop := (set >>> (k &&& 31)) &&& 1 = 1
theorem m_has {d : Nat} {set k : Int32} {h : hp} {kk : Rt} (ht : hasB set k → kk (some (.inl 1)) h) (hf : ¬ hasB set k → kk (some (.inl 0)) h) : CL d mX7_has 0 0 [.inl set, .inl k] h kk :=
  mw T_X7_has (fun Wm go => go cut0 30 0 _ _ _ _ _ (And.intro (fun c1 => And.intro (Or.inr rfl) (ht c1)) (fun c1 => And.intro (Or.inl rfl) (hf c1))))
def leastI (a b : Int32) : Int32 := if a < b then a else b
theorem m_least {d : Nat} {a b : Int32} {h : hp} {kk : Rt} (hk : kk (some (.inl (leastI a b))) h) : CL d mX7_least 0 0 [.inl a, .inl b] h kk :=
  mw T_X7_least (fun Wm go => go cut0 30 0 _ _ _ _ _ (And.intro (fun c1 => kki hk (by unfold leastI; rw [if_neg (Int32.not_lt.mpr c1)]) rfl) (fun c1 => kki hk (by unfold leastI; rw [if_pos (Int32.not_le.mp c1)]) rfl)))
theorem m_meets {d x : Nat} {f : Int32} {h : hp} {I : Nat → Int32} {A : Nat → Nat → Int32} {kk : Rt} (hk : kk (some (.inl (-1000010 - f))) (MU h (x + 1) (upd I 700 f) A)) : CL d mX7_meets 0 0 [.inr (.inr (8, x + 1)), .inl f] (MU h (x + 1) I A) kk :=
  mw T_X7_meets (fun Wm go => go cut0 30 0 _ _ _ _ _ (kki hk rfl (MU_wI _ _ _ _ _ _)))
theorem m_well {d x : Nat} {f : Int32} {h : hp} {I : Nat → Int32} {A : Nat → Nat → Int32} {kk : Rt} (hk : kk (some (.inl f)) (MU h (x + 1) (upd I 700 0) A)) : CL d mX7_well 0 0 [.inr (.inr (8, x + 1)), .inl f] (MU h (x + 1) I A) kk :=
  mw T_X7_well (fun Wm go => go cut0 30 0 _ _ _ _ _ (kki hk rfl (MU_wI _ _ _ _ _ _)))
theorem m_status {d x : Nat} {h : hp} {I : Nat → Int32} {A : Nat → Nat → Int32} {kk : Rt} (hk : kk (some (.inl (I 700))) (MU h (x + 1) I A)) : CL d mX7_status 0 0 [.inr (.inr (8, x + 1))] (MU h (x + 1) I A) kk :=
  mw T_X7_status (fun Wm go => go cut0 30 0 _ _ _ _ _ (kki hk (MU_fI _ _ _ _ _) rfl))
theorem m_isRow {d : Nat} {v : Int32} {h : hp} {kk : Rt} (ht : inR v 0 7 → kk (some (.inl 1)) h) (hf : ¬ inR v 0 7 → kk (some (.inl 0)) h) : CL (d + 1) mX7_isRow 0 0 [.inl v] h kk :=
  mw T_X7_isRow (fun Wm go => go cut0 30 0 _ _ _ _ _ (m_in (fun c => And.intro (Or.inr rfl) (ht c)) (fun c => And.intro (Or.inl rfl) (hf c))))
def cutI (lane v : Int32) : Int32 := if lane = 0 then v.toInt8.toInt32 else if lane = 1 then v.toInt16.toInt32 else v
theorem m_cut {d : Nat} {lane v : Int32} {h : hp} {kk : Rt} (hk : kk (some (.inl (cutI lane v))) h) : CL d mX7_cut 0 0 [.inl lane, .inl v] h kk :=
  mw T_X7_cut (fun Wm go => go cut0 30 0 _ _ _ _ _ (And.intro (fun c1 => kki hk (by unfold cutI; rw [if_pos c1]) rfl) (fun c1 => And.intro (fun c2 => kki hk (by unfold cutI; rw [if_neg c1, if_pos c2]) rfl) (fun c2 => kki hk (by unfold cutI; rw [if_neg c1, if_neg c2]) rfl))))
