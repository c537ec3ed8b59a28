/-! ===== pairs: from ===== -/
theorem ol_s {c it : Nat → Int32} {k : Nat} {o : Option Nat} (h : olS c it k = some o) : olS c it (k + 1) = if it k = c k then some o else if o.isSome = true ∨ it k < 0 ∨ ¬ it k ≤ c k then none else some (some k) := by
  show (match olS c it k with | none => none | some o => _) = _
  rw [h]
theorem ol_eq {c it : Nat → Int32} : ∀ k, (∀ j, j < k → it j = c j) → olS c it k = some none
  | 0, _ => rfl
  | k + 1, h => by
    rw [ol_s (ol_eq k (fun j hj => h j (by omega))), if_pos (h k (by omega))]
theorem ol_one {c it : Nat → Int32} {b : Nat} (hne : it b ≠ c b) (h0 : ¬ it b < 0) (hle : it b ≤ c b) : ∀ k, b < k → (∀ j, j < k → j ≠ b → it j = c j) → olS c it k = some (some b)
  | 0, hb, _ => absurd hb (Nat.not_lt_zero b)
  | k + 1, hb, h => by
    by_cases e : b = k
    · subst e
      rw [ol_s (ol_eq b (fun j hj => h j (by omega) (by omega))), if_neg hne, if_neg]
      intro z
      rcases z with z | z | z
      · cases z
      · exact h0 z
      · exact z hle
    · rw [ol_s (ol_one hne h0 hle k (by omega) (fun j hj => h j (by omega))), if_pos (h k (by omega) (fun z => e z.symm))]
theorem ol_inv0 {c it : Nat → Int32} : ∀ k, olS c it k = some none → ∀ j, j < k → it j = c j
  | 0, _, j, hj => absurd hj (Nat.not_lt_zero j)
  | k + 1, h, j, hj => by
    cases e : olS c it k with
    | none =>
      have := olS_n e 1
      rw [this] at h; cases h
    | some o =>
      rw [ol_s e] at h
      by_cases c1 : it k = c k
      · rw [if_pos c1] at h
        cases h
        by_cases ej : j = k
        · rw [ej]; exact c1
        · exact ol_inv0 k e j (by omega)
      · rw [if_neg c1] at h
        split at h <;> cases h
theorem ol_inv {c it : Nat → Int32} {b : Nat} : ∀ k, olS c it k = some (some b) → b < k ∧ it b ≠ c b ∧ ¬ it b < 0 ∧ it b ≤ c b ∧ ∀ j, j < k → j ≠ b → it j = c j
  | 0, h => by cases h
  | k + 1, h => by
    cases e : olS c it k with
    | none =>
      have := olS_n e 1
      rw [this] at h; cases h
    | some o =>
      rw [ol_s e] at h
      by_cases c1 : it k = c k
      · rw [if_pos c1] at h
        cases h
        obtain ⟨i1, i2, i3, i4, i5⟩ := ol_inv k e
        refine ⟨by omega, i2, i3, i4, fun j hj hne => ?_⟩
        by_cases ej : j = k
        · rw [ej]; exact c1
        · exact i5 j (by omega) hne
      · rw [if_neg c1] at h
        by_cases c2 : o.isSome = true ∨ it k < 0 ∨ ¬ it k ≤ c k
        · rw [if_pos c2] at h; cases h
        · rw [if_neg c2] at h
          cases h
          have e0 : o = none := by
            cases o with
            | none => rfl
            | some q => exact absurd (Or.inl rfl) c2
          subst e0
          refine ⟨by omega, c1, fun z => c2 (Or.inr (Or.inl z)), ?_, fun j hj hne => ol_inv0 _ e j (by omega)⟩
          apply Classical.byContradiction
          intro z
          exact c2 (Or.inr (Or.inr z))
theorem ol_cg {c c' it it' : Nat → Int32} : ∀ k, (∀ j, j < k → c j = c' j ∧ it j = it' j) → olS c it k = olS c' it' k
  | 0, _ => rfl
  | k + 1, h => by
    show (match olS c it k with | none => none | some o => if it k = c k then some o else if o.isSome = true ∨ it k < 0 ∨ ¬ it k ≤ c k then none else some (some k)) = (match olS c' it' k with | none => none | some o => if it' k = c' k then some o else if o.isSome = true ∨ it' k < 0 ∨ ¬ it' k ≤ c' k then none else some (some k))
    rw [ol_cg k (fun j hj => h j (by omega)), (h k (by omega)).1, (h k (by omega)).2]
theorem frL_cg {q q' : Nat → Bool} {v : Int32} {st : Nat × Int32} : ∀ L, (∀ l, 1 ≤ l → l ≤ L → q l = q' l) → frL q v st L = frL q' v st L
  | 0, _ => rfl
  | L + 1, h => by
    show frN (frL q v st L) (q (L + 1)) v = frN (frL q' v st L) (q' (L + 1)) v
    rw [frL_cg L (fun l h1 h2 => h l h1 (by omega)), h (L + 1) (by omega) (by omega)]
theorem frL_no {q : Nat → Bool} {v : Int32} {st : Nat × Int32} : ∀ L, (∀ l, 1 ≤ l → l ≤ L → q l = false) → frL q v st L = st
  | 0, _ => rfl
  | L + 1, h => by
    show frN (frL q v st L) (q (L + 1)) v = st
    rw [frL_no L (fun l h1 h2 => h l h1 (by omega)), h (L + 1) (by omega) (by omega)]
    rfl
theorem frB_no {q : Nat → Nat → Bool} {v : Nat → Int32} {st : Nat × Int32} : ∀ n, (∀ b, b < n → ∀ l, 1 ≤ l → l ≤ 30 → q b l = false) → frB q v st n = st
  | 0, _ => rfl
  | n + 1, h => by
    show frL (q n) (v n) (frB q v st n) 30 = st
    rw [frB_no n (fun b hb => h b (by omega))]
    exact frL_no 30 (h n (by omega))
theorem frB_one {q : Nat → Nat → Bool} {v : Nat → Int32} {st : Nat × Int32} {b0 : Nat} : ∀ n, b0 < n → (∀ b, b < n → b ≠ b0 → ∀ l, 1 ≤ l → l ≤ 30 → q b l = false) → frB q v st n = frL (q b0) (v b0) st 30
  | 0, h, _ => absurd h (Nat.not_lt_zero b0)
  | n + 1, h, hn => by
    show frL (q n) (v n) (frB q v st n) 30 = _
    by_cases e : b0 = n
    · subst e
      rw [frB_no b0 (fun b hb => hn b (by omega) (by omega))]
    · rw [frB_one n (by omega) (fun b hb => hn b (by omega))]
      exact frL_no 30 (hn n (by omega) (fun z => e z.symm))
section Q15
variable {H : hp} {K : Nat → Nat} {V W : Nat → Nat → Int32} {y x n cm at' am by' tm t : Nat} {I : Nat → Int32} {A : Nat → Nat → Int32} {rs : Nat → Option Nat}
theorem RD.frq (hR : RD H K V W y x I A n cm at' am by' tm rs t) {r i e b l : Nat} (he : e < cm) (hb : b < n) (l1 : 1 ≤ l) (l3 : l ≤ 30) : frQ A n r i e b l = true ↔ olS (A 715) (fun j => A 703 (40 * r + (i + j))) n = some (some b) ∧ tkN A e (nI l) = A 715 b - A 703 (40 * r + (i + b)) := by
  have n8 := hR.n8
  obtain ⟨k, hd, dd, hk, hh, -, -, et⟩ := hR.tkn he
  have z1 := tkZ_pos (l := l) (dd := dd) hk.1 hk.2 hh.1 l1
  have z2 := tkZ_le (l := l) (dd := dd) hk.1 hk.2 hh.2 (by omega)
  have et := et l (by omega)
  generalize tkZ k hd l dd = z at *
  obtain ⟨cb, cb1, cb2, -⟩ := hR.bw.1 b (by omega)
  unfold frQ ilF
  rw [Bool.and_eq_true, decide_eq_true_iff, alB_t, et, cb2]
  constructor
  · rintro ⟨h1, h2⟩
    have hz := (nI_leI (by omega) (by omega)).mp h1
    have hb2 := of_decide_eq_true (h2 b hb)
    rw [if_pos rfl, cb2, pk_sub hz] at hb2
    refine ⟨ol_one ?_ ?_ ?_ n hb (fun j hj hne => ?_), ?_⟩
    · rw [hb2, cb2]
      intro w
      have := nIj (by omega) (by omega) w
      omega
    · rw [hb2]; exact nI_pos (by omega)
    · rw [hb2, cb2]; exact (nI_leI (by omega) (by omega)).mpr (by omega)
    · have := of_decide_eq_true (h2 j hj)
      rw [if_neg hne] at this
      exact this
    · rw [hb2, pk_sub (by omega)]
      congr 1
      omega
  · rintro ⟨h1, h2⟩
    obtain ⟨-, i2, i3, i4, i5⟩ := ol_inv n h1
    obtain ⟨v, v1, ev⟩ := nI_of i3
    rw [ev, cb2] at i2 i4
    have v2 := (nI_leI (by omega) (by omega)).mp i4
    rw [ev, pk_sub v2] at h2
    have ez : z = cb - v := nIj (by omega) (by omega) h2
    refine ⟨(nI_leI (by omega) (by omega)).mpr (by omega), fun j hj => decide_eq_true ?_⟩
    by_cases ej : j = b
    · subst ej
      rw [if_pos rfl, ev, cb2, pk_sub (by omega)]
      congr 1
      omega
    · rw [if_neg ej]; exact i5 j hj ej
theorem b_from {rw' i wh : Int32} (hmv : MVal H (x + 1) I A) (hR : RD H K V W (y + 1) (x + 1) I A n cm at' am by' tm rs t) : Both 0 0 mX6_from mX7_from [.inl rw', .inl i, .inl wh] (y + 1) (x + 1) (CU H K V W) (INV (y + 1) (x + 1) (t + 1)) := by
  intro kk1 hk1
  have n8 := hR.n8
  have c4 := hR.c4
  have hrw := hR.rl
  have hri := hR.2.2.1
  have pt : ∀ s i' k', s ≤ 40 → i' + k' ≤ s → isPt s (nI i') (nI k') := fun s i' k' hs h => by
    unfold isPt
    rw [nI_toInt (by omega), nI_toInt (by omega)]
    omega
  refine c_from hR.cs hR.pn hrw (fun c => ro hmv hR hk1 (fun kk2 h2 => m_from hR.ms hR.mi hri (fun _ => h2 A (EA.rf A)) (fun z _ => absurd c (by omega)) (fun r z _ _ _ _ => absurd c (by omega)) (fun r s z _ _ _ _ _ => absurd c (by omega)) (fun r s i' z _ _ _ _ _ _ _ => absurd c (by omega))))
    (fun c q => ro hmv hR hk1 (fun kk2 h2 => m_from hR.ms hR.mi hri (fun z => absurd z (by omega)) (fun _ _ => h2 A (EA.rf A)) (fun r _ hr e w _ => absurd ⟨by rw [e]; exact inB_nI hr (by omega), inR2.mp w⟩ q) (fun r s _ hr e w _ _ => absurd ⟨by rw [e]; exact inB_nI hr (by omega), inR2.mp w⟩ q) (fun r s i' _ hr e w _ _ _ _ => absurd ⟨by rw [e]; exact inB_nI hr (by omega), inR2.mp w⟩ q)))
    (fun r c hr e w en => gen hmv hR.sm hk1 (fun kk2 hk2 => m_from hR.ms hR.mi hri (fun z => absurd z (by omega)) (fun _ z => absurd ⟨by rw [e]; exact inB_nI hr (by omega), inR2.mpr w⟩ z) (fun r' _ _ _ _ _ => hk2 _ _ hR.t1.stat.toX) (fun r' s _ hr' e' _ es _ => ?_) (fun r' s i' _ hr' e' _ es _ _ _ => ?_)))
    (fun r s c hr e w es np => gen hmv hR.sm hk1 (fun kk2 hk2 => m_from hR.ms hR.mi hri (fun z => absurd z (by omega)) (fun _ z => absurd ⟨by rw [e]; exact inB_nI hr (by omega), inR2.mpr w⟩ z) (fun r' _ hr' e' _ en => ?_) (fun r' s' _ _ _ _ _ _ => hk2 _ _ hR.t1.stat.toX) (fun r' s' i' _ hr' e' _ es' ei hi _ => ?_)))
    (fun r s i' R c hr e w es ei hi eR => ?_)
  · obtain rfl : r = r' := nIj (by omega) (by omega) (e.symm.trans e')
    rw [en] at es; cases es
  · obtain rfl : r = r' := nIj (by omega) (by omega) (e.symm.trans e')
    rw [en] at es; cases es
  · obtain rfl : r = r' := nIj (by omega) (by omega) (e.symm.trans e')
    rw [en] at es; cases es
  · obtain rfl : r = r' := nIj (by omega) (by omega) (e.symm.trans e')
    rw [es] at es'; cases es'
    exact absurd (by rw [ei]; exact pt _ _ _ (hR.row hr es).1 hi) np
  · obtain ⟨s40, -, sw'⟩ := hR.row hr es
    have eo : olS (W 100) (fun j => W (300 + r) (i' + j)) n = olS (A 715) (fun j => A 703 (40 * r + (i' + j))) n := ol_cg n (fun j hj => ⟨hR.w1 (by omega), sw' _ (by omega)⟩)
    have key : frC (frQ A n r i') frV n cm = R := by
      rw [eR, eo]
      cases ho : olS (A 715) (fun j => A 703 (40 * r + (i' + j))) n with
      | none =>
        have : ∀ c, c ≤ cm → frC (frQ A n r i') frV n c = (0, eNONE) := by
          intro c
          induction c with
          | zero => intro _; rfl
          | succ c ih =>
            intro hc
            show frB (frQ A n r i' c) (frV c) (frC (frQ A n r i') frV n c) n = _
            rw [ih (by omega)]
            refine frB_no n (fun b hb l l1 l3 => ?_)
            rw [← Bool.not_eq_true]
            intro z
            have := ((hR.frq (by omega) hb l1 l3).mp z).1
            rw [ho] at this; cases this
        exact this cm (Nat.le_refl cm)
      | some o =>
        cases o with
        | none =>
          have : ∀ c, c ≤ cm → frC (frQ A n r i') frV n c = (0, eNONE) := by
            intro c
            induction c with
            | zero => intro _; rfl
            | succ c ih =>
              intro hc
              show frB (frQ A n r i' c) (frV c) (frC (frQ A n r i') frV n c) n = _
              rw [ih (by omega)]
              refine frB_no n (fun b hb l l1 l3 => ?_)
              rw [← Bool.not_eq_true]
              intro z
              have := ((hR.frq (by omega) hb l1 l3).mp z).1
              rw [ho] at this; cases this
          exact this cm (Nat.le_refl cm)
        | some b0 =>
          have hb0 := (ol_inv n ho).1
          have : ∀ c, c ≤ cm → frC (frQ A n r i') frV n c = frK (fun e l => decide (tkC H (hfR H 604 (y + 1)) V e (nI l) = W 100 b0 - W (300 + r) (i' + b0))) (fun e => frV e b0) c := by
            intro c
            induction c with
            | zero => intro _; rfl
            | succ c ih =>
              intro hc
              show frB (frQ A n r i' c) (frV c) (frC (frQ A n r i') frV n c) n = frL _ (frV c b0) (frK _ _ c) 30
              rw [ih (by omega), frB_one n hb0 (fun b hb hne l l1 l3 => ?_)]
              · refine frL_cg 30 (fun l l1 l3 => ?_)
                rw [Bool.eq_iff_iff, hR.frq (by omega) hb0 l1 l3, decide_eq_true_iff, hR.tk (by omega), hR.w1 (by omega), sw' _ (by omega)]
                exact ⟨fun z => z.2, fun z => ⟨ho, z⟩⟩
              · rw [← Bool.not_eq_true]
                intro z
                have := ((hR.frq (by omega) hb l1 l3).mp z).1
                rw [ho] at this
                cases this
                exact hne rfl
          exact this cm (Nat.le_refl cm)
    refine gen hmv hR.sm hk1 (fun kk2 hk2 => m_from hR.ms hR.mi hri (fun z => absurd z (by omega)) (fun _ z => absurd ⟨by rw [e]; exact inB_nI hr (by omega), inR2.mpr w⟩ z) (fun r' _ hr' e' _ en => ?_) (fun r' s' _ hr' e' _ es' np => ?_) (fun r' s' i2 _ hr' e' _ es' ei' hi' _ => ?_))
    · obtain rfl : r = r' := nIj (by omega) (by omega) (e.symm.trans e')
      rw [en] at es; cases es
    · obtain rfl : r = r' := nIj (by omega) (by omega) (e.symm.trans e')
      rw [es] at es'; cases es'
      exact absurd (by rw [ei]; exact pt _ _ _ s40 hi) np
    · obtain rfl : r = r' := nIj (by omega) (by omega) (e.symm.trans e')
      rw [es] at es'; cases es'
      obtain rfl : i' = i2 := nIj (by omega) (by omega) (ei.symm.trans ei')
      rw [key]
      exact hk2 _ _ hR.t1.stat.toX
end Q15
