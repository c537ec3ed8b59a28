/-! ===== the letters: what a castle's letters say ===== -/
def letR (t : Nat → Int32) (B p : Nat) : Int32 := if p < B then t p else -1
abbrev figQ (t : Nat → Int32) (B p : Nat) : Prop := p < B ∧ inR (t p) 48 57
def numV (v : Int32) (q : Nat) (lo hi : Int32) : Int32 ⊕ (Int32 × Nat) := if inR v lo hi then .inr (v, q) else .inl 2
def numR (t : Nat → Int32) (B p : Nat) (lo hi : Int32) : Int32 ⊕ (Int32 × Nat) :=
  if figQ t B p then (if figQ t B (p + 1) then (if figQ t B (p + 2) then .inl 1 else numV (10 * (t p - 48) + t (p + 1) - 48) (p + 2) lo hi) else numV (t p - 48) (p + 1) lo hi) else .inl 1
abbrev PS := Nat × Nat × Nat × Nat × (Nat → Int32) × (Nat → Int32) × (Nat → Int32) × (Nat → Int32)
def sgR {α : Type} (t : Nat → Int32) (B p : Nat) (c : Int32) (k : Nat → (Int32 × Nat) ⊕ α) : (Int32 × Nat) ⊕ α := if letR t B p = c then k (p + 1) else .inl (1, p)
def nuR {α : Type} (t : Nat → Int32) (B p : Nat) (lo hi : Int32) (k : Int32 → Nat → (Int32 × Nat) ⊕ α) : (Int32 × Nat) ⊕ α := match numR t B p lo hi with
  | .inl f => .inl (f, p)
  | .inr (v, q) => k v q
theorem sgR_1 {α : Type} {t : Nat → Int32} {B p : Nat} {c : Int32} {k : Nat → (Int32 × Nat) ⊕ α} (h : letR t B p = c) : sgR t B p c k = k (p + 1) := if_pos h
theorem sgR_0 {α : Type} {t : Nat → Int32} {B p : Nat} {c : Int32} {k : Nat → (Int32 × Nat) ⊕ α} (h : ¬ letR t B p = c) : sgR t B p c k = .inl (1, p) := if_neg h
theorem nuR_0 {α : Type} {t : Nat → Int32} {B p : Nat} {lo hi f : Int32} {k : Int32 → Nat → (Int32 × Nat) ⊕ α} (h : numR t B p lo hi = .inl f) : nuR t B p lo hi k = .inl (f, p) := by unfold nuR; rw [h]
theorem nuR_1 {α : Type} {t : Nat → Int32} {B p q : Nat} {lo hi v : Int32} {k : Int32 → Nat → (Int32 × Nat) ⊕ α} (h : numR t B p lo hi = .inr (v, q)) : nuR t B p lo hi k = k v q := by unfold nuR; rw [h]
theorem numV_r {v w : Int32} {q r : Nat} {lo hi : Int32} (h : numV v q lo hi = .inr (w, r)) : inR v lo hi ∧ v = w ∧ q = r := by
  unfold numV at h
  split at h
  · next c => cases h; exact ⟨c, rfl, rfl⟩
  · cases h
theorem numR_r {t : Nat → Int32} {B p q : Nat} {lo hi v : Int32} (h : numR t B p lo hi = .inr (v, q)) : inR v lo hi ∧ p < q ∧ q ≤ B := by
  unfold numR at h
  split at h
  · next c1 =>
    split at h
    · next c2 =>
      split at h
      · cases h
      · obtain ⟨a, rfl, rfl⟩ := numV_r h
        exact ⟨a, by omega, by have := c2.1; omega⟩
    · obtain ⟨a, rfl, rfl⟩ := numV_r h
      exact ⟨a, by omega, by have := c1.1; omega⟩
  · cases h
def kindN (v : Int32) : Int32 := if v = 99 then 1 else if v = 115 then 2 else if v = 112 then 3 else if v = 121 then 4 else if v = 108 then 5 else 0
def lawR (t : Nat → Int32) (B : Nat) : (Int32 × Nat) ⊕ (Int32 × Int32 × Nat) := sgR t B 0 107 fun p => nuR t B p 1 9 fun v p => sgR t B p 44 fun p => nuR t B p 0 10 fun w p => sgR t B p 59 fun p => .inr (v, w, p)
def blockR (t : Nat → Int32) (B : Nat) : PS → (Int32 × Nat) ⊕ PS
  | (p, nb, nr, nc, ch, on, ki, ha) => if nb = 8 then .inl (3, p) else nuR t B (p + 1) 1 30 fun v q => sgR t B q 59 fun q => .inr (q, nb + 1, nr, nc, upd ch nb v, upd on nb 0, ki, ha)
def restR (t : Nat → Int32) (B : Nat) : PS → (Int32 × Nat) ⊕ PS
  | (p, nb, nr, nc, ch, on, ki, ha) => if nr = 12 then .inl (3, p) else nuR t B (p + 1) 0 (nI nb - 1) fun u q => sgR t B q 44 fun q => nuR t B q 0 (u - 1) fun l r => if hasB (on u.toNatClampNeg) l then .inl (2, q) else sgR t B r 59 fun r => .inr (r, nb, nr + 1, nc, ch, upd on u.toNatClampNeg (on u.toNatClampNeg ||| (1 <<< (l &&& 31))), ki, ha)
def clerkR (t : Nat → Int32) (B : Nat) : PS → (Int32 × Nat) ⊕ PS
  | (p, nb, nr, nc, ch, on, ki, ha) => if kindN (letR t B p) = 0 then .inl (1, p) else if nc = 4 then .inl (3, p) else nuR t B (p + 1) 1 9 fun v q => sgR t B q 59 fun q => .inr (q, nb, nr, nc + 1, ch, on, upd ki nc (kindN (letR t B p)), upd ha nc v)
def itemR (t : Nat → Int32) (B : Nat) (S : PS) : (Int32 × Nat) ⊕ PS :=
  if letR t B S.1 = 98 ∧ S.2.2.1 = 0 ∧ S.2.2.2.1 = 0 then blockR t B S else if letR t B S.1 = 114 ∧ 0 < S.2.1 ∧ S.2.2.2.1 = 0 then restR t B S else if 0 < S.2.1 then clerkR t B S else .inl (1, S.1)
def finR (t : Nat → Int32) (B : Nat) : Nat → PS → (Int32 × Nat) ⊕ PS
  | 0, S => .inr S
  | f + 1, S => if S.2.1 = 0 ∨ S.1 < B then (match itemR t B S with
    | .inl e => .inl e
    | .inr S' => finR t B f S') else .inr S
abbrev zf : Nat → Int32 := fun _ => 0
/-! ===== the reference: reading ===== -/
section M11
variable {d x p B : Nat} {h : hp} {I : Nat → Int32} {A : Nat → Nat → Int32} {kk : Rt}
theorem m_here (hS : MSh h (x + 1)) (hp : I 717 = nI p) (hB : I 704 = nI B) (h120 : B ≤ 120) (hpB : p ≤ B) (hk : kk (some (.inl (letR (A 705) B p))) (MU h (x + 1) I A)) : CL d mX7_here 0 0 [.inr (.inr (8, x + 1))] (MU h (x + 1) I A) kk := by
  refine mw T_X7_here (fun Wm go => go cut0 40 0 _ _ _ _ _ ?_)
  have ep : hfI (MU h (x + 1) I A) 717 (x + 1) = nI p := (MU_fI _ _ _ _ _).trans hp
  refine icg ep ((MU_fI _ _ _ _ _).trans hB) (by omega) (by omega) (fun c => ?_) (fun c => ?_)
  · exact kki hk (by unfold letR; rw [if_neg (by omega)]) rfl
  · refine mldk (f := 705) hS (by decide) p ep (by show p < 120; omega) ?_
    exact kki hk (by unfold letR; rw [if_pos c]) rfl
theorem m_isFigure {i : Int32} {j : Nat} (hi : i = nI j) (hS : MSh h (x + 1)) (hB : I 704 = nI B) (h120 : B ≤ 120) (hj : j ≤ 1000) (ht : figQ (A 705) B j → kk (some (.inl 1)) (MU h (x + 1) I A)) (hf : ¬ figQ (A 705) B j → kk (some (.inl 0)) (MU h (x + 1) I A)) : CL (d + 1) mX7_isFigure 0 0 [.inr (.inr (8, x + 1)), .inl i] (MU h (x + 1) I A) kk := by
  subst hi
  refine mw T_X7_isFigure (fun Wm go => go cut0 40 0 _ _ _ _ _ ?_)
  refine icg rfl ((MU_fI _ _ _ _ _).trans hB) (by omega) (by omega) (fun c => ?_) (fun c => ?_)
  · exact And.intro (Or.inl rfl) (hf (fun z => by have := z.1; omega))
  · refine mldk (f := 705) hS (by decide) j rfl (by show j < 120; omega) ?_
    refine m_in (fun z => br1 ?_) (fun z => br0 ?_)
    · exact And.intro (Or.inr rfl) (ht ⟨c, z⟩)
    · exact And.intro (Or.inl rfl) (hf (fun q => z q.2))
theorem m_run (hS : MSh h (x + 1)) (hp : I 717 = nI p) (hB : I 704 = nI B) (h120 : B ≤ 120) (hpB : p ≤ B) (hk : ∀ r, p + r ≤ B → (∀ j, j < r → figQ (A 705) B (p + j)) → ¬ figQ (A 705) B (p + r) → kk (some (.inl (nI r))) (MU h (x + 1) I A)) : CL (d + 2) mX7_run 0 0 [.inr (.inr (8, x + 1))] (MU h (x + 1) I A) kk := by
  refine mw T_X7_run (fun Wm go => go (cut1 2) 40 0 _ _ _ _ _ ?_)
  have ep : hfI (MU h (x + 1) I A) 717 (x + 1) = nI p := (MU_fI _ _ _ _ _).trans hp
  refine upto (n := B - p) (P := fun r => (∀ j, j < r → figQ (A 705) B (p + j)) → Wm 2 [some (.inr (.inr (8, x + 1))), some (.inl (nI r))] [] (MU h (x + 1) I A) 0 0) (fun r hr ih hj => ?_) 0 (Nat.zero_le _) (fun j hj => by omega)
  refine go (cut1 2) 60 2 _ _ _ _ _ ?_
  refine m_isFigure (j := p + r) (by rw [ep]; exact nI_add _ _) hS hB h120 (by omega) (fun c => br1 ?_) (fun c => br0 ?_)
  · have e := ih (by have := c.1; omega) (fun j hj' => by
      by_cases q : j = r
      · rw [q]; exact c
      · exact hj j (by omega))
    rw [← nI_1] at e
    exact e
  · exact hk r (by omega) hj c
theorem m_fails {f : Int32} (hk : kk (some (.inl 0)) (MU h (x + 1) (upd I 718 f) A)) : CL d mX7_fails 0 0 [.inr (.inr (8, x + 1)), .inl f] (MU h (x + 1) I A) kk :=
  mw T_X7_fails (fun Wm go => go cut0 40 0 _ _ _ _ _ (And.intro (Or.inl rfl) (kki hk rfl (MU_wI _ _ _ _ _ _))))
theorem m_readsSign {c : Int32} (hS : MSh h (x + 1)) (hp : I 717 = nI p) (hB : I 704 = nI B) (h120 : B ≤ 120) (hpB : p ≤ B) (hf : ¬ letR (A 705) B p = c → kk (some (.inl 0)) (MU h (x + 1) (upd I 718 1) A)) (hg : letR (A 705) B p = c → kk (some (.inl 1)) (MU h (x + 1) (upd I 717 (nI (p + 1))) A)) : CL (d + 1) mX7_readsSign 0 0 [.inr (.inr (8, x + 1)), .inl c] (MU h (x + 1) I A) kk := by
  refine mw T_X7_readsSign (fun Wm go => go cut0 40 0 _ _ _ _ _ ?_)
  refine m_here hS hp hB h120 hpB ?_
  refine And.intro (fun z => ?_) (fun z => ?_)
  · refine And.intro (Or.inr rfl) (kki (hg z) rfl ?_)
    rw [MU_wI, MU_fI, hp]
    exact congrArg (fun v => MU h (x + 1) (upd I 717 v) A) (nI_1 p)
  · exact m_fails (And.intro (Or.inl rfl) (hf z))
theorem m_number {lo hi : Int32} (hS : MSh h (x + 1)) (hp : I 717 = nI p) (hB : I 704 = nI B) (h120 : B ≤ 120) (hpB : p ≤ B) (hf : ∀ f, numR (A 705) B p lo hi = .inl f → kk (some (.inl (-1))) (MU h (x + 1) (upd I 718 f) A)) (hg : ∀ v q, numR (A 705) B p lo hi = .inr (v, q) → kk (some (.inl v)) (MU h (x + 1) (upd I 717 (nI q)) A)) : CL (d + 3) mX7_number 0 0 [.inr (.inr (8, x + 1)), .inl lo, .inl hi] (MU h (x + 1) I A) kk := by
  refine mw3 T_X7_number (fun Wm go wk => go (cut2 22 66) 80 0 _ _ _ _ _ ?_)
  have ep : hfI (MU h (x + 1) I A) 717 (x + 1) = nI p := (MU_fI _ _ _ _ _).trans hp
  refine m_run hS hp hB h120 hpB (fun r hr hj hn => ?_)
  have r0 : r = 0 → kk (some (.inl (-1))) (MU h (x + 1) (upd I 718 1) A) := by
    intro e
    refine hf 1 ?_
    unfold numR
    subst e
    rw [if_neg (show ¬ figQ (A 705) B p from hn)]
  have r3 : 2 < r → kk (some (.inl (-1))) (MU h (x + 1) (upd I 718 1) A) := by
    intro e
    refine hf 1 ?_
    unfold numR
    rw [if_pos (show figQ (A 705) B p from hj 0 (by omega)), if_pos (hj 1 (by omega)), if_pos (hj 2 (by omega))]
  have fin : ∀ v : Int32, numR (A 705) B p lo hi = numV v (p + r) lo hi → Wm 66 [some (.inr (.inr (8, x + 1))), some (.inl lo), some (.inl hi), some (.inl (nI r)), none] [.inl v] (MU h (x + 1) I A) 0 0 := by
    intro v hv
    refine go cut0 80 66 _ _ _ _ _ ?_
    refine m_in (fun z => br1 ?_) (fun z => br0 ?_)
    · refine kki (hg v (p + r) (by rw [hv]; unfold numV; rw [if_pos z])) rfl ?_
      rw [MU_wI, MU_fI, hp]
      exact congrArg (fun v => MU h (x + 1) (upd I 717 v) A) (nI_add _ _)
    · exact m_fails (hf 2 (by rw [hv]; unfold numV; rw [if_neg z]))
  have key : 1 ≤ r → r ≤ 2 → Wm 22 [some (.inr (.inr (8, x + 1))), some (.inl lo), some (.inl hi), some (.inl (nI r)), none] [] (MU h (x + 1) I A) 0 0 := by
    intro a1 a2
    refine go (cut1 66) 80 22 _ _ _ _ _ ?_
    have b1 := (hj 0 (by omega)).1
    refine mldk (f := 705) hS (by decide) p ep (by show p < 120; omega) ?_
    refine And.intro (fun z => ?_) (fun z => ?_)
    · have z : r = 2 := (nI_eq (b := 2) (by omega) (by omega)).mp z
      have b2 := (hj 1 (by omega)).1
      refine mldk (f := 705) hS (by decide) (p + 1) (by rw [ep]; exact nI_1 p) (by show p + 1 < 120; omega) ?_
      refine wk _ _ _ _ _ _ _ (fin _ ?_) (by repeat (first | exact ln | refine l0 ?_ | refine l1 rfl ?_))
      unfold numR
      subst z
      rw [if_pos (show figQ (A 705) B p from hj 0 (by omega)), if_pos (hj 1 (by omega)), if_neg hn]
    · have z : ¬ nI r = 2 := z
      have z : r = 1 := by
        have : r ≠ 2 := fun q => z (by rw [q]; rfl)
        omega
      refine wk _ _ _ _ _ _ _ (fin _ ?_) (by repeat (first | exact ln | refine l0 ?_ | refine l1 rfl ?_))
      unfold numR
      subst z
      rw [if_pos (show figQ (A 705) B p from hj 0 (by omega)), if_neg hn]
  refine And.intro (fun z => ?_) (fun z => ?_)
  · have z : r = 0 := (nI_eq (b := 0) (by omega) (by omega)).mp z
    exact m_fails (r0 z)
  · have z : ¬ nI r = 0 := z
    have z1 : r ≠ 0 := fun q => z (by rw [q]; rfl)
    refine And.intro (fun z2 => ?_) (fun z2 => ?_)
    · have z2 : r ≤ 2 := (nI_leI (b := 2) (by omega) (by omega)).mp z2
      exact key (by omega) z2
    · have z2 : ¬ nI r ≤ nI 2 := z2
      have z2 : ¬ r ≤ 2 := fun q => z2 ((nI_leI (by omega) (by omega)).mpr q)
      exact m_fails (r3 (by omega))
theorem m_kindOf {v : Int32} (hk : kk (some (.inl (if kindN v = 0 then eNONE else kindN v))) h) : CL d mX7_kindOf 0 0 [.inl v] h kk := by
  refine mw T_X7_kindOf (fun Wm go => go cut0 40 0 _ _ _ _ _ ?_)
  refine And.intro (fun c => ?_) (fun c => And.intro (fun c2 => ?_) (fun c2 => And.intro (fun c3 => ?_) (fun c3 => And.intro (fun c4 => ?_) (fun c4 => And.intro (fun c5 => ?_) (fun c5 => ?_)))))
  · exact kki hk (by have c : v = 99 := c; subst c; decide) rfl
  · exact kki hk (by have c : v = 108 := c2; subst c; decide) rfl
  · exact kki hk (by have c : v = 112 := c3; subst c; decide) rfl
  · exact kki hk (by have c : v = 115 := c4; subst c; decide) rfl
  · exact kki hk (by have c : v = 121 := c5; subst c; decide) rfl
  · refine kki hk ?_ rfl
    have e : kindN v = 0 := by unfold kindN; rw [if_neg c, if_neg c4, if_neg c3, if_neg c5, if_neg c2]
    rw [e]
    rfl
/-- what may change while letters are read -/
def EI (I I' : Nat → Int32) : Prop := ∀ k, (k < 717 ∨ 721 < k) → I' k = I k
def ER (A A' : Nat → Nat → Int32) : Prop := ∀ f, (f < 722 ∨ 726 < f) → A' f = A f
theorem EI.u {I I' : Nat → Int32} (h : EI I I') {k : Nat} {v : Int32} (hk : 717 ≤ k ∧ k ≤ 721) : EI I (upd I' k v) := by
  intro j hj
  rw [← h j hj]
  exact if_neg (by omega)
theorem ER.u {A A' : Nat → Nat → Int32} (h : ER A A') {f : Nat} {g : Nat → Int32} (hk : 722 ≤ f ∧ f ≤ 726) : ER A (va_up A' f g) := by
  intro j hj
  rw [← h j hj]
  exact va_up_ne _ _ (by omega)
/-- the reference has read as far as S, out of the heap I0, A0 -/
def RM (I0 : Nat → Int32) (A0 : Nat → Nat → Int32) (B : Nat) (rain rubs : Int32) (S : PS) (I : Nat → Int32) (A : Nat → Nat → Int32) : Prop :=
  (EI I0 I ∧ ER A0 A ∧ I0 704 = nI B ∧ B ≤ 120) ∧ (I 717 = nI S.1 ∧ S.1 ≤ B) ∧ (I 719 = nI S.2.1 ∧ S.2.1 ≤ 8) ∧ (I 720 = nI S.2.2.1 ∧ S.2.2.1 ≤ 12) ∧ (I 721 = nI S.2.2.2.1 ∧ S.2.2.2.1 ≤ 4) ∧ (A 722 0 = rain ∧ A 722 1 = rubs) ∧ (∀ j, j < S.2.1 → A 723 j = S.2.2.2.2.1 j ∧ A 724 j = S.2.2.2.2.2.1 j) ∧ (∀ c, c < S.2.2.2.1 → A 726 c = S.2.2.2.2.2.2.1 c ∧ A 725 c = S.2.2.2.2.2.2.2 c)
theorem letR_lt {t : Nat → Int32} {B p : Nat} {c : Int32} (h : letR t B p = c) (hc : c ≠ -1) : p < B := by
  unfold letR at h
  split at h
  · assumption
  · exact absurd h.symm hc
theorem ng {v lo hi : Int32} (h : inR v lo hi) (h0 : 0 ≤ lo) : ¬ v < 0 := Int32.not_lt.mpr (Int32.le_trans h0 h.1)
theorem m_readsLaw {I0 : Nat → Int32} {A0 : Nat → Nat → Int32} (hS : MSh h (x + 1)) (hE : EI I0 I) (hR : ER A0 A) (hB : I0 704 = nI B) (h120 : B ≤ 120) (hp : I 717 = 0) (h19 : I 719 = 0) (h20 : I 720 = 0) (h21 : I 721 = 0)
    (hf : ∀ f q I' A', lawR (A0 705) B = .inl (f, q) → EI I0 I' → ER A0 A' → I' 718 = f → I' 717 = nI q → kk (some (.inl 0)) (MU h (x + 1) I' A'))
    (hg : ∀ v w q I' A', lawR (A0 705) B = .inr (v, w, q) → RM I0 A0 B v w (q, 0, 0, 0, zf, zf, zf, zf) I' A' → kk (some (.inl 1)) (MU h (x + 1) I' A')) : CL (d + 4) mX7_readsLaw 0 0 [.inr (.inr (8, x + 1))] (MU h (x + 1) I A) kk := by
  have e5 : A 705 = A0 705 := hR 705 (by omega)
  have eB : I 704 = nI B := (hE 704 (by omega)).trans hB
  unfold lawR at hf hg
  rw [← e5] at hf hg
  refine mw T_X7_readsLaw (fun Wm go => go cut0 80 0 _ _ _ _ _ ?_)
  refine m_readsSign (p := 0) hS hp eB h120 (by omega) (fun c => br0 ?_) (fun c => br1 ?_)
  · exact And.intro (Or.inl rfl) (hf 1 0 _ _ (sgR_0 c) (hE.u (by omega)) hR rfl hp)
  · rw [sgR_1 c] at hf hg
    have l0 := letR_lt c (by decide)
    refine m_number (p := 1) hS rfl eB h120 (by omega) (fun f hn => ?_) (fun v q hn => ?_)
    · rw [nuR_0 hn] at hf
      refine mstk (f := 722) hS (by decide) 0 rfl (by decide) ?_
      refine mldk (f := 722) hS (by decide) 0 rfl (by decide) ?_
      refine And.intro (fun z => ?_) (fun z => absurd (show (-1 : Int32) < 0 by decide) z)
      exact And.intro (Or.inl rfl) (hf _ _ _ _ rfl ((hE.u (by omega)).u (by omega)) (hR.u (by omega)) rfl rfl)
    · rw [nuR_1 hn] at hf hg
      obtain ⟨b1, b2, b3⟩ := numR_r hn
      refine mstk (f := 722) hS (by decide) 0 rfl (by decide) ?_
      refine mldk (f := 722) hS (by decide) 0 rfl (by decide) ?_
      refine And.intro (fun z => absurd z (ng b1 (by decide))) (fun z => ?_)
      refine m_readsSign (p := q) hS rfl eB h120 b3 (fun c2 => br0 ?_) (fun c2 => br1 ?_)
      · exact And.intro (Or.inl rfl) (hf 1 q _ _ (sgR_0 c2) (((hE.u (by omega)).u (by omega)).u (by omega)) (hR.u (by omega)) rfl rfl)
      · have c2 : letR (A 705) B q = 44 := c2
        rw [sgR_1 c2] at hf hg
        have l1 := letR_lt c2 (by decide)
        refine m_number (p := q + 1) hS rfl eB h120 (by omega) (fun f hn2 => ?_) (fun w r hn2 => ?_)
        · have hn2 : numR (A 705) B (q + 1) 0 10 = .inl f := hn2
          rw [nuR_0 hn2] at hf
          refine mstk (f := 722) hS (by decide) 1 rfl (by decide) ?_
          refine mldk (f := 722) hS (by decide) 1 rfl (by decide) ?_
          refine And.intro (fun z => ?_) (fun z => absurd (show (-1 : Int32) < 0 by decide) z)
          exact And.intro (Or.inl rfl) (hf _ _ _ _ rfl ((((hE.u (by omega)).u (by omega)).u (by omega)).u (by omega)) ((hR.u (by omega)).u (by omega)) rfl rfl)
        · have hn2 : numR (A 705) B (q + 1) 0 10 = .inr (w, r) := hn2
          rw [nuR_1 hn2] at hf hg
          obtain ⟨d1, d2, d3⟩ := numR_r hn2
          refine mstk (f := 722) hS (by decide) 1 rfl (by decide) ?_
          refine mldk (f := 722) hS (by decide) 1 rfl (by decide) ?_
          refine And.intro (fun z => absurd z (ng d1 (by decide))) (fun z => ?_)
          refine m_readsSign (p := r) hS rfl eB h120 d3 (fun c3 => br0 ?_) (fun c3 => br1 ?_)
          · exact And.intro (Or.inl rfl) (hf 1 r _ _ (sgR_0 c3) (((((hE.u (by omega)).u (by omega)).u (by omega)).u (by omega)).u (by omega)) ((hR.u (by omega)).u (by omega)) rfl rfl)
          · have c3 : letR (A 705) B r = 59 := c3
            rw [sgR_1 c3] at hg
            have l2 := letR_lt c3 (by decide)
            refine And.intro (Or.inr rfl) (hg v w (r + 1) _ _ rfl ⟨⟨((((hE.u (by omega)).u (by omega)).u (by omega)).u (by omega)).u (by omega), (hR.u (by omega)).u (by omega), hB, h120⟩, ⟨rfl, by show r + 1 ≤ B; omega⟩, ⟨h19, Nat.zero_le _⟩, ⟨h20, Nat.zero_le _⟩, ⟨h21, Nat.zero_le _⟩, ⟨rfl, rfl⟩, fun j hj => absurd hj (Nat.not_lt_zero j), fun j hj => absurd hj (Nat.not_lt_zero j)⟩)
end M11
