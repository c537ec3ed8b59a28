/-! ===== pure: takes, sums, sets ===== -/
def tkZ (k hd l dd : Nat) : Nat := if k = 1 then hd * l else if k = 2 then (hd * l + 1) / 2 else if k = 3 then 2 * hd * l else if k = 4 then l + min dd 9 else l + min dd 9 + hd
theorem least9 {dd : Nat} (h : dd < 2 ^ 31) : leastI (nI dd) 9 = nI (min dd 9) := by
  show (if nI dd < nI 9 then nI dd else nI 9) = nI (min dd 9)
  by_cases c : dd < 9
  · rw [if_pos ((nI_ltI (b := 9) (by omega) (by omega)).mpr c), Nat.min_eq_left (by omega)]
  · rw [if_neg (fun z => c ((nI_ltI (b := 9) (by omega) (by omega)).mp z)), Nat.min_eq_right (by omega)]
theorem tkB_n {k hd l dd : Nat} (k1 : 1 ≤ k) (k5 : k ≤ 5) (h9 : hd ≤ 9) (l3 : l ≤ 100) (d9 : dd < 2 ^ 20) : tkB (nI k) (nI hd) (nI l) (nI dd) = nI (tkZ k hd l dd) := by
  have hm : hd * l ≤ 9 * 100 := Nat.mul_le_mul h9 l3
  have : k = 1 ∨ k = 2 ∨ k = 3 ∨ k = 4 ∨ k = 5 := by omega
  rcases this with rfl | rfl | rfl | rfl | rfl
  · show nI hd * nI l = nI (hd * l)
    rw [pk_mul]
  · show (nI hd * nI l + 1) / 2 = nI ((hd * l + 1) / 2)
    rw [pk_mul, nI_1]
    exact pk_div (d := 2) (by omega) (by omega) (by omega)
  · show nI 2 * nI hd * nI l = nI (2 * hd * l)
    rw [pk_mul, pk_mul]
  · show nI l + leastI (nI dd) 9 = nI (l + min dd 9)
    rw [least9 (by omega), nI_add]
  · show nI l + leastI (nI dd) 9 + nI hd = nI (l + min dd 9 + hd)
    rw [least9 (by omega), nI_add, nI_add]
theorem tkZ_mono {k hd l dd : Nat} (k1 : 1 ≤ k) (k5 : k ≤ 5) : tkZ k hd l dd ≤ tkZ k hd (l + 1) dd := by
  have h1 : hd * l ≤ hd * (l + 1) := Nat.mul_le_mul_left hd (by omega)
  have h2 : 2 * hd * l ≤ 2 * hd * (l + 1) := Nat.mul_le_mul_left (2 * hd) (by omega)
  have : k = 1 ∨ k = 2 ∨ k = 3 ∨ k = 4 ∨ k = 5 := by omega
  rcases this with rfl | rfl | rfl | rfl | rfl
  · exact h1
  · show (hd * l + 1) / 2 ≤ (hd * (l + 1) + 1) / 2
    omega
  · exact h2
  · show l + min dd 9 ≤ l + 1 + min dd 9
    omega
  · show l + min dd 9 + hd ≤ l + 1 + min dd 9 + hd
    omega
theorem tkZ_pos {k hd l dd : Nat} (k1 : 1 ≤ k) (k5 : k ≤ 5) (h1 : 1 ≤ hd) (l1 : 1 ≤ l) : 1 ≤ tkZ k hd l dd := by
  have hm : 1 ≤ hd * l := Nat.mul_pos h1 l1
  have hm2 : 1 ≤ 2 * hd * l := Nat.mul_pos (by omega) l1
  have : k = 1 ∨ k = 2 ∨ k = 3 ∨ k = 4 ∨ k = 5 := by omega
  rcases this with rfl | rfl | rfl | rfl | rfl
  · exact hm
  · show 1 ≤ (hd * l + 1) / 2
    omega
  · exact hm2
  · show 1 ≤ l + min dd 9
    omega
  · show 1 ≤ l + min dd 9 + hd
    omega
theorem tkZ_le {k hd l dd : Nat} (k1 : 1 ≤ k) (k5 : k ≤ 5) (h9 : hd ≤ 9) (l3 : l ≤ 100) : tkZ k hd l dd ≤ 2000 := by
  have hm : hd * l ≤ 9 * 100 := Nat.mul_le_mul h9 l3
  have hm2 : 2 * hd * l ≤ 18 * 100 := Nat.mul_le_mul (by omega) l3
  have : k = 1 ∨ k = 2 ∨ k = 3 ∨ k = 4 ∨ k = 5 := by omega
  rcases this with rfl | rfl | rfl | rfl | rfl
  · show hd * l ≤ 2000
    omega
  · show (hd * l + 1) / 2 ≤ 2000
    omega
  · show 2 * hd * l ≤ 2000
    omega
  · show l + min dd 9 ≤ 2000
    omega
  · show l + min dd 9 + hd ≤ 2000
    omega
theorem smI_z {g : Nat → Int32} {n : Nat} : ∀ k, (∀ j, n ≤ j → j < n + k → g j = 0) → smI g (n + k) = smI g n
  | 0, _ => rfl
  | k + 1, h => by
    show smI g (n + k) + g (n + k) = _
    rw [smI_z k (fun j h1 h2 => h j h1 (by omega)), h (n + k) (by omega) (by omega), Int32.add_zero]
theorem set_ext {u v : Int32} (hu : ∃ m, m < 256 ∧ u = nI m) (hv : ∃ m, m < 256 ∧ v = nI m) (h : ∀ k, k < 8 → (hasB u (nI k) ↔ hasB v (nI k))) : u = v := by
  obtain ⟨a, ha, rfl⟩ := hu
  obtain ⟨b, hb, rfl⟩ := hv
  exact set_eq ha hb h
theorem mk256 {q : Nat → Bool} {n : Nat} (hn : n ≤ 8) : ∃ m, m < 256 ∧ mkS q n = nI m := by
  obtain ⟨m, h1, h2⟩ := mkS_in (q := q) hn
  have := p256 hn
  exact ⟨m, by omega, h2⟩
theorem and256 {u : Int32} (hu : ∃ m, m < 256 ∧ u = nI m) (v : Int32) : ∃ m, m < 256 ∧ u &&& v = nI m := by
  obtain ⟨a, ha, rfl⟩ := hu
  obtain ⟨m, h1, h2⟩ := and_le (a := a) (by omega) v
  exact ⟨m, by omega, h2⟩
/-- fewer with chalk, fewer stand -/
theorem stP_sub {on : Nat → Int32} {p q : Nat → Bool} : ∀ {n : Nat}, n ≤ 8 → (∀ k, k < n → p k = true → q k = true) → ∀ k, k < 8 → hasB (stP on p n) (nI k) → hasB (stP on q n) (nI k)
  | 0, _, _, k, hk, h => absurd h (hasB_0 hk)
  | n + 1, hn, h, k, hk, hb => by
    have ih := stP_sub (on := on) (n := n) (by omega) (fun k hk => h k (by omega))
    have h1 := (stP_bit hk (n := n + 1) hn).mp hb
    refine (stP_bit hk (n := n + 1) hn).mpr ⟨h1.1, h k h1.1 h1.2.1, ?_⟩
    rcases h1.2.2 with h2 | h2
    · exact Or.inl h2
    · refine Or.inr (fun e => h2 ?_)
      have a1 : ∃ m, m < 256 ∧ on k &&& stP on p k = nI m := by
        have hk8 : k ≤ 8 := by omega
        obtain ⟨m, m1, m2⟩ := in_st hk8 on p
        rw [m2, Int32.and_comm]
        exact and256 ⟨m, m1, rfl⟩ _
      refine set_ext a1 ⟨0, by decide, rfl⟩ (fun j hj => ⟨fun z => ?_, fun z => absurd z (hasB_0 hj)⟩)
      have z2 := (hasB_and _ _ hj).mp z
      have hsub : hasB (stP on q k) (nI j) := by
        by_cases ck : k ≤ n
        · have z3 := (stP_bit hj (n := k) (by omega)).mp z2.2
          have z4 : hasB (stP on p n) (nI j) := (stP_bit hj (n := n) (by omega)).mpr ⟨by omega, z3.2⟩
          have z5 := (stP_bit hj (n := n) (by omega)).mp (ih j hj z4)
          exact (stP_bit hj (n := k) (by omega)).mpr ⟨z3.1, z5.2⟩
        · omega
      have : hasB (on k &&& stP on q k) (nI j) := (hasB_and _ _ hj).mpr ⟨z2.1, hsub⟩
      rw [e] at this
      exact this
/-- popcount by bits -/
def cbN (m : Nat) : Nat → Nat
  | 0 => 0
  | k + 1 => cbN m k + (if hasB (nI m) (nI k) then 1 else 0)
theorem cbN_8 : ∀ m, m < 256 → pc8 m = cbN m 8 := by decide +kernel
theorem hasB_ge {m n k : Nat} (hm : m < 2 ^ n) (hn : n ≤ 8) (hk : n ≤ k) (hk8 : k < 8) : ¬ hasB (nI m) (nI k) := by
  have tb : ∀ m, m < 256 → ∀ k, k < 8 → (hasB (nI m) (nI k) ↔ m.testBit k = true) := by decide +kernel
  have := p256 hn
  rw [tb m (by omega) k hk8]
  have h2 : 2 ^ n ≤ 2 ^ k := Nat.pow_le_pow_right (by omega) hk
  rw [Nat.testBit_lt_two_pow (by omega)]
  decide
theorem cbN_n {m n : Nat} (hm : m < 2 ^ n) (hn : n ≤ 8) : pc8 m = cbN m n := by
  have := p256 hn
  rw [cbN_8 m (by omega)]
  have key : ∀ k, n + k ≤ 8 → cbN m (n + k) = cbN m n := by
    intro k
    induction k with
    | zero => intro _; rfl
    | succ k ih =>
      intro hk
      show cbN m (n + k) + (if hasB (nI m) (nI (n + k)) then 1 else 0) = _
      rw [ih (by omega), if_neg (hasB_ge hm hn (by omega) (by omega))]
      rfl
  have := key (8 - n) (by omega)
  rw [show n + (8 - n) = 8 by omega] at this
  exact this
theorem cbN_le (m : Nat) : ∀ k, cbN m k ≤ k
  | 0 => Nat.le_refl _
  | k + 1 => by
    have := cbN_le m k
    show cbN m k + (if hasB (nI m) (nI k) then 1 else 0) ≤ k + 1
    split <;> omega
theorem smI_but {a : Nat → Int32} {m : Nat} : ∀ n, smI (fun k => if hasB (nI m) (nI k) then a k - 1 else a k) n = smI a n - nI (cbN m n)
  | 0 => by
    show (0 : Int32) = 0 - nI 0
    rfl
  | n + 1 => by
    show smI (fun k => if hasB (nI m) (nI k) then a k - 1 else a k) n + (if hasB (nI m) (nI n) then a n - 1 else a n) = smI a n + a n - nI (cbN m n + (if hasB (nI m) (nI n) then 1 else 0))
    rw [smI_but n]
    by_cases c : hasB (nI m) (nI n)
    · rw [if_pos c, if_pos c, ← nI_1]
      generalize smI a n = s
      generalize nI (cbN m n) = z
      generalize a n = w
      grind
    · rw [if_neg c, if_neg c]
      show _ = _ - nI (cbN m n)
      generalize smI a n = s
      generalize nI (cbN m n) = z
      generalize a n = w
      grind
theorem lfS_end {ok : Nat → Bool} {cost : Nat → Int32} {m : Nat} : ∀ k, (∀ j, m ≤ j → j < m + k → ok j = false) → lfS ok cost (m + k) = lfS ok cost m
  | 0, _ => rfl
  | k + 1, h => by
    have e : lfS ok cost (m + k + 1) = lfS ok cost (m + k) := lfS_0 (fun z => by rw [h (m + k) (by omega) (by omega)] at z; exact absurd z.1 (by decide))
    exact e.trans (lfS_end k (fun j h1 h2 => h j h1 (by omega)))
theorem lfS_congr {ok ok' : Nat → Bool} {cost cost' : Nat → Int32} : ∀ m, (∀ j, j < m → ok j = ok' j ∧ cost j = cost' j) → lfS ok cost m = lfS ok' cost' m
  | 0, _ => rfl
  | m + 1, h => by
    show (if ok m = true ∧ cost m < (lfS ok cost m).2 then (nI m, cost m) else lfS ok cost m) = (if ok' m = true ∧ cost' m < (lfS ok' cost' m).2 then (nI m, cost' m) else lfS ok' cost' m)
    rw [lfS_congr m (fun j hj => h j (by omega)), (h m (by omega)).1, (h m (by omega)).2]
theorem sub_le : ∀ m, m < 256 → ∀ k, k < 256 → nI k &&& (nI m ^^^ (-1)) = 0 → k ≤ m := by
  intro m hm k hk e
  have tb : ∀ m, m < 256 → ∀ k, k < 8 → (hasB (nI m) (nI k) ↔ m.testBit k = true) := by decide +kernel
  have hb : ∀ j, j < 8 → hasB (nI k) (nI j) → hasB (nI m) (nI j) := by
    intro j hj h1
    apply Classical.byContradiction
    intro h2
    have : hasB (nI k &&& (nI m ^^^ (-1))) (nI j) := (hasB_and _ _ hj).mpr ⟨h1, (hasB_not _ hj).mpr h2⟩
    rw [e] at this
    exact hasB_0 hj this
  have e2 : k &&& m = k := by
    apply Nat.eq_of_testBit_eq
    intro i
    rw [Nat.testBit_and]
    by_cases hi : i < 8
    · by_cases c : k.testBit i = true
      · rw [c, (tb m hm i hi).mp (hb i hi ((tb k hk i hi).mpr c))]; rfl
      · rw [Bool.not_eq_true] at c
        rw [c]; rfl
    · have h1 : 2 ^ 8 ≤ 2 ^ i := Nat.pow_le_pow_right (by omega) (by omega)
      rw [Nat.testBit_lt_two_pow (x := k) (by omega)]; rfl
  rw [← e2]
  exact Nat.and_le_right
theorem prN_eq {q k : Nat} (hq : q ≤ 10) : ∀ j, prN q k j = q ^ cbN k j * (10 - q) ^ (j - cbN k j)
  | 0 => rfl
  | j + 1 => by
    have hl := cbN_le k j
    show prN q k j * (if hasB (nI k) (nI j) then q else 10 - q) = q ^ (cbN k j + (if hasB (nI k) (nI j) then 1 else 0)) * (10 - q) ^ (j + 1 - (cbN k j + (if hasB (nI k) (nI j) then 1 else 0)))
    rw [prN_eq hq j]
    by_cases c : hasB (nI k) (nI j)
    · rw [if_pos c, if_pos c, Nat.pow_succ, show j + 1 - (cbN k j + 1) = j - cbN k j by omega]
      rw [Nat.mul_assoc, Nat.mul_comm _ q, ← Nat.mul_assoc]
    · rw [if_neg c, if_neg c, Nat.add_zero, show j + 1 - cbN k j = j - cbN k j + 1 by omega, Nat.pow_succ, Nat.mul_assoc]
