/-! ===== pure: the best of ways to write ===== -/
theorem cbN_mono {u v : Nat} (h : ∀ k, k < 8 → hasB (nI u) (nI k) → hasB (nI v) (nI k)) : ∀ k, k ≤ 8 → cbN u k ≤ cbN v k
  | 0, _ => Nat.le_refl _
  | k + 1, hk => by
    have ih := cbN_mono h k (by omega)
    show cbN u k + (if hasB (nI u) (nI k) then 1 else 0) ≤ cbN v k + (if hasB (nI v) (nI k) then 1 else 0)
    by_cases c : hasB (nI u) (nI k)
    · rw [if_pos c, if_pos (h k (by omega) c)]; omega
    · rw [if_neg c]
      split <;> omega
theorem cnP_n {on a : Nat → Int32} {n : Nat} (hn : n ≤ 8) : ∃ q, q ≤ 8 ∧ cnP on n a = nI q := by
  obtain ⟨u, u1, u2⟩ := stP_in (on := on) (p := posB a) hn
  have := p256 hn
  unfold cnP bitsI
  rw [u2, nI_clamp (by omega)]
  exact ⟨_, pc8_le u (by omega), rfl⟩
theorem cnP_mono {on a b : Nat → Int32} {n : Nat} (hn : n ≤ 8) (h : ∀ k, k < n → posB a k = true → posB b k = true) : cnP on n a ≤ cnP on n b := by
  obtain ⟨u, u1, u2⟩ := stP_in (on := on) (p := posB a) hn
  obtain ⟨v, v1, v2⟩ := stP_in (on := on) (p := posB b) hn
  have h256 := p256 hn
  have sub := stP_sub (on := on) hn h
  rw [u2, v2] at sub
  unfold cnP bitsI
  rw [u2, v2, nI_clamp (by omega), nI_clamp (by omega), cbN_n u1 hn, cbN_n v1 hn]
  have l1 := cbN_le u n
  have l2 := cbN_le v n
  exact (nI_leI (by omega) (by omega)).mpr (cbN_mono sub n hn)
theorem upd_mono {a : Nat → Int32} {b z : Nat} {d : Int32} (ed : d = nI z) (hz : z < 2 ^ 31) (h : ¬ a b < d) : ∀ k, posB (upd a b (a b - d)) k = true → posB a k = true := by
  intro k hk
  unfold posB upd at hk
  by_cases e : k = b
  · subst e
    rw [if_pos rfl] at hk
    subst ed
    have h0 : ¬ a k < 0 := fun w => h (Int32.lt_of_lt_of_le w (nI_pos' hz))
    obtain ⟨q, q1, q2⟩ := nI_of h0
    rw [q2] at h hk
    have hle := (nI_leI hz q1).mp (Int32.not_lt.mp h)
    rw [pk_sub hle] at hk
    have := (nI_ltI (a := 0) (by omega) (by omega)).mp (of_decide_eq_true hk)
    unfold posB
    rw [q2]
    exact decide_eq_true ((nI_ltI (a := 0) (by omega) q1).mpr (by omega))
  · rw [if_neg e] at hk; exact hk
def bfF (on : Nat → Int32) (n m : Nat) (nd : Nat → Int32) : Nat → (Nat → Int32) → (Nat → Int32) → Int32 × (Nat → Int32) → Int32 × (Nat → Int32)
  | 0, a, w, r => if r.1 < cnP on n a then (cnP on n a, w) else r
  | k + 1, a, w, r => iterB (fun b r => if a b < nd (m - (k + 1)) then r else bfF on n m nd k (upd a b (a b - nd (m - (k + 1)))) (upd w (m - (k + 1)) (nI b)) r) n r
theorem iterB_id {α : Type} {f : Nat → α → α} {r : α} : ∀ n, (∀ b, b < n → f b r = r) → iterB f n r = r
  | 0, _ => rfl
  | n + 1, h => by
    show f n (iterB f n r) = r
    rw [iterB_id n (fun b hb => h b (by omega))]
    exact h n (by omega)
theorem iterB_cg {α : Type} {f g : Nat → α → α} {r : α} : ∀ n, (∀ b, b < n → ∀ r, f b r = g b r) → iterB f n r = iterB g n r
  | 0, _ => rfl
  | n + 1, h => by
    show f n (iterB f n r) = g n (iterB g n r)
    rw [iterB_cg n (fun b hb => h b (by omega))]
    exact h n (by omega) _
section Q19
variable {on nd : Nat → Int32} {n m : Nat}
theorem bf_stay (hn : n ≤ 8) (hnd : ∀ d, d < m → ∃ z, z < 2 ^ 31 ∧ nd d = nI z) : ∀ k, k ≤ m → ∀ a w (r : Int32 × (Nat → Int32)), cnP on n a ≤ r.1 → bfF on n m nd k a w r = r
  | 0, _, a, w, r, h => if_neg (Int32.not_lt.mpr h)
  | k + 1, hk, a, w, r, h => by
    refine iterB_id n (fun b hb => ?_)
    by_cases c : a b < nd (m - (k + 1))
    · exact if_pos c
    · refine (if_neg c).trans (bf_stay hn hnd k (by omega) _ _ r ?_)
      obtain ⟨z, z1, z2⟩ := hnd (m - (k + 1)) (by omega)
      exact Int32.le_trans (cnP_mono hn (fun q _ => upd_mono z2 z1 c q)) h
theorem tb_bf (hn : n ≤ 8) (hnd : ∀ d, d < m → ∃ z, z < 2 ^ 31 ∧ nd d = nI z) : ∀ k, k ≤ m → ∀ a w (r : Int32 × (Nat → Int32)), tbF on n m nd k a w r = bfF on n m nd k a w r
  | 0, _, a, w, r => rfl
  | k + 1, hk, a, w, r => by
    show (if r.1 < cnP on n a then iterB _ n r else r) = _
    by_cases c : r.1 < cnP on n a
    · rw [if_pos c]
      refine iterB_cg n (fun b hb r => ?_)
      by_cases c2 : a b < nd (m - (k + 1))
      · rw [if_pos c2, if_pos c2]
      · rw [if_neg c2, if_neg c2]; exact tb_bf hn hnd k (by omega) _ _ r
    · rw [if_neg c]
      exact (bf_stay hn hnd (k + 1) hk a w r (Int32.not_lt.mp c)).symm
/-- a run of writings from the level s on -/
def chT (nd : Nat → Int32) (dg : Nat → Nat) (s : Nat) (a : Nat → Int32) : Nat → Option (Nat → Int32)
  | 0 => some a
  | j + 1 => match chT nd dg s a j with
    | none => none
    | some b => if b (dg (s + j)) < nd (s + j) then none else some (upd b (dg (s + j)) (b (dg (s + j)) - nd (s + j)))
theorem chT_f {dg : Nat → Nat} {s : Nat} {a : Nat → Int32} : ∀ j, chT nd dg s a (j + 1) = if a (dg s) < nd s then none else chT nd dg (s + 1) (upd a (dg s) (a (dg s) - nd s)) j
  | 0 => rfl
  | j + 1 => by
    show (match chT nd dg s a (j + 1) with | none => none | some b => if b (dg (s + (j + 1))) < nd (s + (j + 1)) then none else some (upd b (dg (s + (j + 1))) (b (dg (s + (j + 1))) - nd (s + (j + 1))))) = _
    rw [chT_f j]
    by_cases c : a (dg s) < nd s
    · rw [if_pos c, if_pos c]
    · rw [if_neg c, if_neg c]
      show _ = (match chT nd dg (s + 1) (upd a (dg s) (a (dg s) - nd s)) j with | none => none | some b => if b (dg (s + 1 + j)) < nd (s + 1 + j) then none else some (upd b (dg (s + 1 + j)) (b (dg (s + 1 + j)) - nd (s + 1 + j))))
      rw [show s + 1 + j = s + (j + 1) by omega]
theorem chT_cg {dg dg' : Nat → Nat} {s : Nat} {a : Nat → Int32} : ∀ j, (∀ i, i < j → dg (s + i) = dg' (s + i)) → chT nd dg s a j = chT nd dg' s a j
  | 0, _ => rfl
  | j + 1, h => by
    show (match chT nd dg s a j with | none => none | some b => if b (dg (s + j)) < nd (s + j) then none else some (upd b (dg (s + j)) (b (dg (s + j)) - nd (s + j)))) = (match chT nd dg' s a j with | none => none | some b => if b (dg' (s + j)) < nd (s + j) then none else some (upd b (dg' (s + j)) (b (dg' (s + j)) - nd (s + j))))
    rw [chT_cg j (fun i hi => h i (by omega)), h j (by omega)]
def bwG (up : Nat → Int32) (wf : Nat → Nat → Int32) : Nat → Int32 × (Nat → Int32) → Int32 × (Nat → Int32)
  | 0, r => r
  | c + 1, r => if (bwG up wf c r).1 < up c then (up c, wf c) else bwG up wf c r
theorem bwG_add {up : Nat → Int32} {wf : Nat → Nat → Int32} {N : Nat} {r : Int32 × (Nat → Int32)} : ∀ k, bwG up wf (N + k) r = bwG (fun c => up (N + c)) (fun c => wf (N + c)) k (bwG up wf N r)
  | 0 => rfl
  | k + 1 => by
    show (if (bwG up wf (N + k) r).1 < up (N + k) then (up (N + k), wf (N + k)) else bwG up wf (N + k) r) = (if (bwG (fun c => up (N + c)) (fun c => wf (N + c)) k (bwG up wf N r)).1 < up (N + k) then (up (N + k), wf (N + k)) else bwG (fun c => up (N + c)) (fun c => wf (N + c)) k (bwG up wf N r))
    rw [bwG_add k]
theorem bwG_cg {up up' : Nat → Int32} {wf wf' : Nat → Nat → Int32} {r : Int32 × (Nat → Int32)} : ∀ k, (∀ c, c < k → up c = up' c ∧ wf c = wf' c) → bwG up wf k r = bwG up' wf' k r
  | 0, _ => rfl
  | k + 1, h => by
    show (if (bwG up wf k r).1 < up k then (up k, wf k) else bwG up wf k r) = (if (bwG up' wf' k r).1 < up' k then (up' k, wf' k) else bwG up' wf' k r)
    rw [bwG_cg k (fun c hc => h c (by omega)), (h k (by omega)).1, (h k (by omega)).2]
theorem bwG_no {up : Nat → Int32} {wf : Nat → Nat → Int32} {r : Int32 × (Nat → Int32)} (h1 : -1 ≤ r.1) : ∀ k, (∀ c, c < k → up c = -1) → bwG up wf k r = r
  | 0, _ => rfl
  | k + 1, h => by
    show (if (bwG up wf k r).1 < up k then (up k, wf k) else bwG up wf k r) = r
    rw [bwG_no h1 k (fun c hc => h c (by omega)), h k (by omega), if_neg (Int32.not_lt.mpr h1)]
theorem bwG_ge {up : Nat → Int32} {wf : Nat → Nat → Int32} {r : Int32 × (Nat → Int32)} (h1 : -1 ≤ r.1) : ∀ k, -1 ≤ (bwG up wf k r).1
  | 0 => h1
  | k + 1 => by
    have ih := bwG_ge (up := up) (wf := wf) h1 k
    show -1 ≤ (if (bwG up wf k r).1 < up k then (up k, wf k) else bwG up wf k r).1
    by_cases c : (bwG up wf k r).1 < up k
    · rw [if_pos c]; exact Int32.le_of_lt (Int32.lt_of_le_of_lt ih c)
    · rw [if_neg c]; exact ih
abbrev pth (n m s code : Nat) (w : Nat → Int32) : Nat → Int32 := fun d => if s ≤ d ∧ d < m then nI (dgt n m code d) else w d
theorem dg_top {b c k s : Nat} (hb : b < n) (hc : c < n ^ k) (hs : m - 1 - s = k) : dgt n m (b * n ^ k + c) s = b := by
  unfold dgt
  rw [hs, Nat.mul_comm b, Nat.mul_add_div (by omega), Nat.div_eq_of_lt hc, Nat.add_zero, Nat.mod_eq_of_lt hb]
theorem dg_low {b c k s d : Nat} (hn0 : 0 < n) (hs : m - 1 - s = k) (h1 : s < d) (h2 : d < m) : dgt n m (b * n ^ k + c) d = dgt n m c d := by
  unfold dgt
  obtain ⟨e, he⟩ : ∃ e, k = (m - 1 - d) + (e + 1) := ⟨k - (m - 1 - d) - 1, by omega⟩
  have hp : 0 < n ^ (m - 1 - d) := Nat.pow_pos hn0
  have e1 : b * n ^ k + c = n ^ (m - 1 - d) * (b * n ^ e * n) + c := by
    rw [he, Nat.pow_add, Nat.pow_succ]
    congr 1
    rw [← Nat.mul_assoc, Nat.mul_comm b, Nat.mul_assoc, Nat.mul_assoc]
  rw [e1, Nat.mul_add_div hp, Nat.add_comm, Nat.add_mul_mod_self_right]
theorem bf_bw (hn0 : 0 < n) (hn : n ≤ 8) : ∀ k, k ≤ m → ∀ (a w : Nat → Int32) (r : Int32 × (Nat → Int32)), -1 ≤ r.1 → bfF on n m nd k a w r = bwG (fun c => sbV on n (chT nd (dgt n m c) (m - k) a k)) (fun c => pth n m (m - k) c w) (n ^ k) r
  | 0, _, a, w, r, h1 => by
    show (if r.1 < cnP on n a then (cnP on n a, w) else r) = (if r.1 < cnP on n a then (cnP on n a, pth n m (m - 0) 0 w) else r)
    have : pth n m (m - 0) 0 w = w := by
      funext d
      exact if_neg (by omega)
    rw [this]
  | k + 1, hk, a, w, r, h1 => by
    have hs : m - 1 - (m - (k + 1)) = k := by omega
    have hp : 0 < n ^ k := Nat.pow_pos hn0
    have key : ∀ b, b ≤ n → iterB (fun b r => if a b < nd (m - (k + 1)) then r else bfF on n m nd k (upd a b (a b - nd (m - (k + 1)))) (upd w (m - (k + 1)) (nI b)) r) b r = bwG (fun c => sbV on n (chT nd (dgt n m c) (m - (k + 1)) a (k + 1))) (fun c => pth n m (m - (k + 1)) c w) (b * n ^ k) r := by
      intro b
      induction b with
      | zero => intro _; rw [Nat.zero_mul]; rfl
      | succ b ih =>
        intro hb
        show (fun b r => if a b < nd (m - (k + 1)) then r else bfF on n m nd k (upd a b (a b - nd (m - (k + 1)))) (upd w (m - (k + 1)) (nI b)) r) b (iterB _ b r) = _
        rw [ih (by omega), Nat.succ_mul, bwG_add]
        have hge := bwG_ge (up := fun c => sbV on n (chT nd (dgt n m c) (m - (k + 1)) a (k + 1))) (wf := fun c => pth n m (m - (k + 1)) c w) h1 (b * n ^ k)
        generalize bwG (fun c => sbV on n (chT nd (dgt n m c) (m - (k + 1)) a (k + 1))) (fun c => pth n m (m - (k + 1)) c w) (b * n ^ k) r = rb at *
        dsimp only
        have up1 : ∀ c, c < n ^ k → chT nd (dgt n m (b * n ^ k + c)) (m - (k + 1)) a (k + 1) = if a b < nd (m - (k + 1)) then none else chT nd (dgt n m c) (m - k) (upd a b (a b - nd (m - (k + 1)))) k := by
          intro c hc
          rw [chT_f, dg_top (by omega) hc hs, show m - (k + 1) + 1 = m - k by omega]
          congr 1
          exact chT_cg k (fun i hi => dg_low hn0 hs (by omega) (by omega))
        by_cases ca : a b < nd (m - (k + 1))
        · rw [if_pos ca]
          refine (bwG_no hge (n ^ k) (fun c hc => ?_)).symm
          show sbV on n (chT nd (dgt n m (b * n ^ k + c)) (m - (k + 1)) a (k + 1)) = -1
          rw [up1 c hc, if_pos ca]
          rfl
        · rw [if_neg ca, bf_bw hn0 hn k (by omega) _ _ rb hge]
          refine bwG_cg (n ^ k) (fun c hc => ⟨?_, ?_⟩)
          · show _ = sbV on n (chT nd (dgt n m (b * n ^ k + c)) (m - (k + 1)) a (k + 1))
            rw [up1 c hc, if_neg ca]
          · funext d
            show (if m - k ≤ d ∧ d < m then nI (dgt n m c d) else upd w (m - (k + 1)) (nI b) d) = (if m - (k + 1) ≤ d ∧ d < m then nI (dgt n m (b * n ^ k + c) d) else w d)
            unfold upd
            by_cases e1 : d = m - (k + 1)
            · rw [if_neg (by omega), if_pos e1, if_pos (by omega), e1, dg_top (by omega) hc hs]
            · by_cases e2 : m - k ≤ d ∧ d < m
              · rw [if_pos e2, if_pos (by omega), dg_low hn0 hs (by omega) e2.2]
              · rw [if_neg e2, if_neg e1, if_neg (by omega)]
    have := key n (Nat.le_refl n)
    rw [show n * n ^ k = n ^ (k + 1) by rw [Nat.pow_succ, Nat.mul_comm]] at this
    exact this
theorem bwS_G {up : Nat → Int32} {wf : Nat → Nat → Int32} {fw : Nat → Int32} : ∀ k, (bwG up wf k (-1, fw)).1 = (bwS up k).1 ∧ ((bwS up k).1 = -1 ∨ (bwG up wf k (-1, fw)).2 = wf (bwS up k).2)
  | 0 => ⟨rfl, Or.inl rfl⟩
  | k + 1 => by
    obtain ⟨h1, h2⟩ := bwS_G (up := up) (wf := wf) (fw := fw) k
    show (if (bwG up wf k (-1, fw)).1 < up k then (up k, wf k) else bwG up wf k (-1, fw)).1 = (if (bwS up k).1 < up k then (up k, k) else bwS up k).1 ∧ ((if (bwS up k).1 < up k then (up k, k) else bwS up k).1 = -1 ∨ (if (bwG up wf k (-1, fw)).1 < up k then (up k, wf k) else bwG up wf k (-1, fw)).2 = wf (if (bwS up k).1 < up k then (up k, k) else bwS up k).2)
    rw [h1]
    by_cases c : (bwS up k).1 < up k
    · rw [if_pos c, if_pos c]; exact ⟨rfl, Or.inr rfl⟩
    · rw [if_neg c, if_neg c]; exact ⟨h1, h2⟩
theorem chST {tk : Nat → Int32} {dg : Nat → Nat} {a b : Nat → Int32} (hd : ∀ w, dg w < 8) (hab : ∀ j, j < 8 → a j = b j) : ∀ w, (∀ i, i < w → tk i = nd i) → (chS tk dg a w = none ∧ chT nd dg 0 b w = none) ∨ ∃ u v, chS tk dg a w = some u ∧ chT nd dg 0 b w = some v ∧ ∀ j, j < 8 → u j = v j
  | 0, _ => Or.inr ⟨a, b, rfl, rfl, hab⟩
  | w + 1, h => by
    have e1 : chS tk dg a (w + 1) = (match chS tk dg a w with | none => none | some b => if b (dg w) < tk w then none else some (upd b (dg w) (b (dg w) - tk w))) := rfl
    have e2 : chT nd dg 0 b (w + 1) = (match chT nd dg 0 b w with | none => none | some b => if b (dg (0 + w)) < nd (0 + w) then none else some (upd b (dg (0 + w)) (b (dg (0 + w)) - nd (0 + w)))) := rfl
    rw [e1, e2, Nat.zero_add, h w (by omega)]
    rcases chST hd hab w (fun i hi => h i (by omega)) with ⟨h1, h2⟩ | ⟨u, v, h1, h2, h3⟩
    · rw [h1, h2]; exact Or.inl ⟨rfl, rfl⟩
    · rw [h1, h2]
      dsimp only
      rw [h3 (dg w) (hd w)]
      by_cases c : v (dg w) < nd w
      · rw [if_pos c, if_pos c]; exact Or.inl ⟨rfl, rfl⟩
      · rw [if_neg c, if_neg c]
        refine Or.inr ⟨_, _, rfl, rfl, fun j hj => ?_⟩
        unfold upd
        rw [h3 j hj]
end Q19
