/-! ===== sets by their bits ===== -/
theorem sshr_k (v : Int32) : ∀ k, k < 8 → (v >>> (nI k &&& 31)).toBitVec = v.toBitVec.sshiftRight k
  | 0, _ => rfl
  | 1, _ => rfl
  | 2, _ => rfl
  | 3, _ => rfl
  | 4, _ => rfl
  | 5, _ => rfl
  | 6, _ => rfl
  | 7, _ => rfl
  | _ + 8, h => by omega
theorem and1 (x : BitVec 32) : x &&& 1#32 = 1#32 ↔ x.getLsbD 0 = true := by
  constructor
  · intro h
    have := congrArg (fun y => BitVec.getLsbD y 0) h
    simpa using this
  · intro h
    apply BitVec.eq_of_getLsbD_eq
    intro i hi
    by_cases c : i = 0
    · subst c
      simp [h]
    · simp [c, BitVec.getLsbD_one]
theorem hasB_iff (v : Int32) {k : Nat} (hk : k < 8) : hasB v (nI k) ↔ v.toBitVec.getLsbD k = true := by
  unfold hasB
  rw [← Int32.toBitVec_inj]
  show (v >>> (nI k &&& 31)).toBitVec &&& 1#32 = 1#32 ↔ _
  rw [and1, sshr_k v k hk, BitVec.getLsbD_sshiftRight]
  rw [if_pos (show k + 0 < 32 by omega)]
  simp
theorem hasB_and (u v : Int32) {k : Nat} (hk : k < 8) : hasB (u &&& v) (nI k) ↔ hasB u (nI k) ∧ hasB v (nI k) := by
  rw [hasB_iff _ hk, hasB_iff _ hk, hasB_iff _ hk]
  show (u.toBitVec &&& v.toBitVec).getLsbD k = true ↔ _
  rw [BitVec.getLsbD_and, Bool.and_eq_true]
theorem hasB_or (u v : Int32) {k : Nat} (hk : k < 8) : hasB (u ||| v) (nI k) ↔ hasB u (nI k) ∨ hasB v (nI k) := by
  rw [hasB_iff _ hk, hasB_iff _ hk, hasB_iff _ hk]
  show (u.toBitVec ||| v.toBitVec).getLsbD k = true ↔ _
  rw [BitVec.getLsbD_or, Bool.or_eq_true]
theorem hasB_not (u : Int32) {k : Nat} (hk : k < 8) : hasB (u ^^^ (-1)) (nI k) ↔ ¬ hasB u (nI k) := by
  rw [hasB_iff _ hk, hasB_iff _ hk]
  show (u.toBitVec ^^^ (BitVec.allOnes 32)).getLsbD k = true ↔ _
  rw [BitVec.getLsbD_xor, BitVec.getLsbD_allOnes]
  have : k < 32 := by omega
  simp [this]
theorem hasB_shl {j k : Nat} (hj : j < 8) (hk : k < 8) : hasB ((1 : Int32) <<< (nI j &&& 31)) (nI k) ↔ k = j := by
  have : ∀ j, j < 8 → ∀ k, k < 8 → (hasB ((1 : Int32) <<< (nI j &&& 31)) (nI k) ↔ k = j) := by decide +kernel
  exact this j hj k hk
theorem hasB_0 {k : Nat} (hk : k < 8) : ¬ hasB 0 (nI k) := by
  have : ∀ k, k < 8 → ¬ hasB 0 (nI k) := by decide +kernel
  exact this k hk
theorem mkS_bit {q : Nat → Bool} {k : Nat} (hk : k < 8) : ∀ {n : Nat}, n ≤ 8 → (hasB (mkS q n) (nI k) ↔ k < n ∧ q k = true)
  | 0, _ => ⟨fun z => absurd z (hasB_0 hk), fun z => absurd z.1 (Nat.not_lt_zero k)⟩
  | n + 1, h => by
    show hasB (mkS q n ||| (if q n = true then 1 <<< (nI n &&& 31) else 0)) (nI k) ↔ _
    rw [hasB_or _ _ hk, mkS_bit hk (n := n) (by omega)]
    by_cases c : q n = true
    · rw [if_pos c, hasB_shl (by omega) hk]
      constructor
      · rintro (z | z)
        · exact ⟨by omega, z.2⟩
        · subst z; exact ⟨by omega, c⟩
      · intro z
        by_cases e : k = n
        · exact Or.inr e
        · exact Or.inl ⟨by omega, z.2⟩
    · rw [if_neg c]
      constructor
      · rintro (z | z)
        · exact ⟨by omega, z.2⟩
        · exact absurd z (hasB_0 hk)
      · intro z
        refine Or.inl ⟨?_, z.2⟩
        by_cases e : k = n
        · subst e; exact absurd z.2 c
        · omega
theorem stP_bit {on : Nat → Int32} {q : Nat → Bool} {k : Nat} (hk : k < 8) : ∀ {n : Nat}, n ≤ 8 → (hasB (stP on q n) (nI k) ↔ k < n ∧ q k = true ∧ (on k = 0 ∨ ¬ on k &&& stP on q k = 0))
  | 0, _ => ⟨fun z => absurd z (hasB_0 hk), fun z => absurd z.1 (Nat.not_lt_zero k)⟩
  | n + 1, h => by
    show hasB (stP on q n ||| (if q n = true ∧ (on n = 0 ∨ ¬ on n &&& stP on q n = 0) then 1 <<< (nI n &&& 31) else 0)) (nI k) ↔ _
    rw [hasB_or _ _ hk, stP_bit hk (n := n) (by omega)]
    by_cases c : q n = true ∧ (on n = 0 ∨ ¬ on n &&& stP on q n = 0)
    · rw [if_pos c, hasB_shl (by omega) hk]
      constructor
      · rintro (z | z)
        · exact ⟨by omega, z.2⟩
        · subst z; exact ⟨by omega, c⟩
      · intro z
        by_cases e : k = n
        · exact Or.inr e
        · exact Or.inl ⟨by omega, z.2⟩
    · rw [if_neg c]
      constructor
      · rintro (z | z)
        · exact ⟨by omega, z.2⟩
        · exact absurd z (hasB_0 hk)
      · intro z
        refine Or.inl ⟨?_, z.2⟩
        by_cases e : k = n
        · subst e; exact absurd z.2 c
        · omega
/-- two sets of BLOCKs with the same bits are the same -/
theorem set_eq {a b : Nat} (ha : a < 256) (hb : b < 256) (h : ∀ k, k < 8 → (hasB (nI a) (nI k) ↔ hasB (nI b) (nI k))) : nI a = nI b := by
  congr 1
  have tb : ∀ m, m < 256 → ∀ k, k < 8 → (hasB (nI m) (nI k) ↔ m.testBit k = true) := by decide +kernel
  apply Nat.eq_of_testBit_eq
  intro i
  by_cases hi : i < 8
  · have := h i hi
    rw [tb a ha i hi, tb b hb i hi] at this
    exact Bool.eq_iff_iff.mpr this
  · have h1 : 2 ^ 8 ≤ 2 ^ i := Nat.pow_le_pow_right (by omega) (by omega)
    rw [Nat.testBit_lt_two_pow (by omega), Nat.testBit_lt_two_pow (by omega)]
theorem mkS_congr {p q : Nat → Bool} : ∀ {n : Nat}, (∀ k, k < n → p k = q k) → mkS p n = mkS q n
  | 0, _ => rfl
  | n + 1, h => by
    show mkS p n ||| (if p n = true then _ else 0) = mkS q n ||| (if q n = true then _ else 0)
    rw [mkS_congr (n := n) (fun k hk => h k (by omega)), h n (by omega)]
