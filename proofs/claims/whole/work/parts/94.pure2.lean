/-! ===== pure: the two ways to read a castle's letters are one ===== -/
section Q17
variable {T : Nat → Int32} {B : Nat} {v w : Int32}
theorem blockR_inv {S S' : PS} (h : blockR T B S = .inr S') : S.2.1 ≠ 8 ∧ S'.2.1 = S.2.1 + 1 ∧ S'.2.2.1 = S.2.2.1 ∧ S'.2.2.2.1 = S.2.2.2.1 ∧ (∃ q, 1 ≤ q ∧ q ≤ 30 ∧ S'.2.2.2.2.1 = upd S.2.2.2.2.1 S.2.1 (nI q)) ∧ S'.2.2.2.2.2.2 = S.2.2.2.2.2.2 := by
  obtain ⟨p, nb, nr, nc, ch, on, ki, ha⟩ := S
  unfold blockR at h
  dsimp only at h
  by_cases c : nb = 8
  · rw [if_pos c] at h; cases h
  · rw [if_neg c] at h
    obtain ⟨u, q, h1, h2⟩ := nuR_i h
    obtain ⟨-, h3⟩ := sgR_i h2
    cases h3
    obtain ⟨m, m1, m2, m3⟩ := inR_n (a := 1) (b := 30) (by decide) (numR_r h1).1 (by decide)
    exact ⟨c, rfl, rfl, rfl, ⟨m, m1, m2, by rw [m3]⟩, rfl⟩
theorem clerkR_inv {S S' : PS} (h : clerkR T B S = .inr S') : S.2.2.2.1 ≠ 4 ∧ S'.2.1 = S.2.1 ∧ S'.2.2.1 = S.2.2.1 ∧ S'.2.2.2.1 = S.2.2.2.1 + 1 ∧ S'.2.2.2.2.1 = S.2.2.2.2.1 ∧ (∃ k, 1 ≤ k ∧ k ≤ 5 ∧ S'.2.2.2.2.2.2.1 = upd S.2.2.2.2.2.2.1 S.2.2.2.1 (nI k)) ∧ ∃ q, 1 ≤ q ∧ q ≤ 9 ∧ S'.2.2.2.2.2.2.2 = upd S.2.2.2.2.2.2.2 S.2.2.2.1 (nI q) := by
  obtain ⟨p, nb, nr, nc, ch, on, ki, ha⟩ := S
  unfold clerkR at h
  dsimp only at h
  by_cases c0 : kindN (letR T B p) = 0
  · rw [if_pos c0] at h; cases h
  · rw [if_neg c0] at h
    by_cases c : nc = 4
    · rw [if_pos c] at h; cases h
    · rw [if_neg c] at h
      obtain ⟨u, q, h1, h2⟩ := nuR_i h
      obtain ⟨-, h3⟩ := sgR_i h2
      cases h3
      obtain ⟨m, m1, m2, m3⟩ := inR_n (a := 1) (b := 9) (by decide) (numR_r h1).1 (by decide)
      rcases kindN_in (letR T B p) with z | ⟨k, k1, k5, ek⟩
      · exact absurd z c0
      · exact ⟨c, rfl, rfl, rfl, rfl, ⟨k, k1, k5, by rw [ek]⟩, m, m1, m2, by rw [m3]⟩
theorem restR_inv {S S' : PS} (h : restR T B S = .inr S') : S.2.2.1 ≠ 12 ∧ S'.2.1 = S.2.1 ∧ S'.2.2.1 = S.2.2.1 + 1 ∧ S'.2.2.2.1 = S.2.2.2.1 ∧ S'.2.2.2.2.1 = S.2.2.2.2.1 ∧ S'.2.2.2.2.2.2 = S.2.2.2.2.2.2 := by
  obtain ⟨p, nb, nr, nc, ch, on, ki, ha⟩ := S
  unfold restR at h
  dsimp only at h
  by_cases c : nr = 12
  · rw [if_pos c] at h; cases h
  · rw [if_neg c] at h
    obtain ⟨u, q, h1, h2⟩ := nuR_i h
    obtain ⟨-, h3⟩ := sgR_i h2
    obtain ⟨l, r, h4, h5⟩ := nuR_i h3
    split at h5
    · cases h5
    · obtain ⟨-, h6⟩ := sgR_i h5
      cases h6
      exact ⟨c, rfl, rfl, rfl, rfl, rfl⟩
abbrev oks (v w : Int32) (S : PS) : RR := .inr (v, w, S)
theorem fin_0 {f : Nat} {S : PS} (h : ¬ (S.2.1 = 0 ∨ S.1 < B)) : finR T B f S = .inr S := by
  cases f with
  | zero => rfl
  | succ f => exact if_neg h
theorem fin_s {f : Nat} {S : PS} (h : S.2.1 = 0 ∨ S.1 < B) : finR T B (f + 1) S = (match itemR T B S with | .inl e => .inl e | .inr S' => finR T B f S') := if_pos h
theorem item_c {S : PS} (h0 : 0 < S.2.1) (h1 : S.2.2.2.1 ≠ 0 ∨ ((letR T B S.1 = 98 → S.2.2.1 ≠ 0) ∧ letR T B S.1 ≠ 114)) : itemR T B S = clerkR T B S := by
  unfold itemR
  rw [if_neg, if_neg, if_pos h0]
  · rintro ⟨z1, -, z2⟩
    rcases h1 with h1 | h1
    · exact h1 z2
    · exact h1.2 z1
  · rintro ⟨z1, z2, z3⟩
    rcases h1 with h1 | h1
    · exact h1 z3
    · exact h1.1 z1 z2
theorem kind_lt {p : Nat} (h : ¬ kindN (letR T B p) = 0) : p < B := by
  apply Nat.lt_of_not_le
  intro z
  apply h
  unfold letR
  rw [if_neg (by omega)]
  exact kindN_m1
theorem fin_clk : ∀ (k f : Nat) (S : PS), 0 < S.2.1 → S.2.2.2.1 ≤ 4 → k + S.2.2.2.1 = 5 → itemR T B S = clerkR T B S → B + 1 ≤ S.1 + f → seR (finR T B f S) (oks v w) = seR (clkW T B k S) (endR B v w)
  | 0, f, S, _, h4, hk, _, _ => by omega
  | k + 1, f, S, h0, h4, hk, hi, hf => by
    by_cases c : kindN (letR T B S.1) = 0
    · have e1 : clkW T B (k + 1) S = .inr S := if_pos c
      rw [e1]
      show _ = endR B v w S
      unfold endR
      by_cases lt : S.1 < B
      · rw [if_pos lt]
        obtain ⟨f', rfl⟩ : ∃ f', f = f' + 1 := ⟨f - 1, by omega⟩
        have e2 : clerkR T B S = .inl (1, S.1) := by
          obtain ⟨p, nb, nr, nc, ch, on, ki, ha⟩ := S
          exact if_pos c
        rw [fin_s (Or.inr lt), hi, e2]
        rfl
      · rw [if_neg lt, fin_0 (by omega)]
        rfl
    · have lt := kind_lt c
      obtain ⟨f', rfl⟩ : ∃ f', f = f' + 1 := ⟨f - 1, by omega⟩
      have e1 : clkW T B (k + 1) S = (match clerkR T B S with | .inl e => .inl e | .inr S' => clkW T B k S') := if_neg c
      rw [e1, fin_s (Or.inr lt), hi]
      cases er : clerkR T B S with
      | inl e => rfl
      | inr S' =>
        obtain ⟨i1, i2, i3, i4, -⟩ := clerkR_inv er
        have il := clerkR_lt er
        exact fin_clk k f' S' (by omega) (by omega) (by omega) (item_c (by omega) (Or.inl (by omega))) (by omega)
theorem fin_rst : ∀ (k f : Nat) (S : PS), 0 < S.2.1 → S.2.2.2.1 = 0 → S.2.2.1 ≤ 12 → k + S.2.2.1 = 13 → (letR T B S.1 = 98 → S.2.2.1 ≠ 0) → B + 1 ≤ S.1 + f → seR (finR T B f S) (oks v w) = seR (rstW T B k S) (clk5 T B v w)
  | 0, f, S, _, _, h4, hk, _, _ => by omega
  | k + 1, f, S, h0, hc, h4, hk, hb, hf => by
    by_cases c : letR T B S.1 = 114
    · have lt := letR_lt c (by decide)
      obtain ⟨f', rfl⟩ : ∃ f', f = f' + 1 := ⟨f - 1, by omega⟩
      have e1 : rstW T B (k + 1) S = (match restR T B S with | .inl e => .inl e | .inr S' => rstW T B k S') := if_pos c
      have hi : itemR T B S = restR T B S := by
        unfold itemR
        rw [if_neg (fun z => absurd (c.symm.trans z.1) (by decide)), if_pos ⟨c, h0, hc⟩]
      rw [e1, fin_s (Or.inr lt), hi]
      cases er : restR T B S with
      | inl e => rfl
      | inr S' =>
        obtain ⟨i1, i2, i3, i4, -⟩ := restR_inv er
        have il := restR_lt er
        exact fin_rst k f' S' (by omega) (by omega) (by omega) (by omega) (fun _ => by omega) (by omega)
    · have e1 : rstW T B (k + 1) S = .inr S := if_neg c
      rw [e1]
      exact fin_clk 5 f S h0 (by omega) (by omega) (item_c h0 (Or.inr ⟨hb, c⟩)) hf
theorem fin_blk : ∀ (k f : Nat) (S : PS), 0 < S.2.1 → S.2.1 ≤ 8 → S.2.2.2.1 = 0 → S.2.2.1 = 0 → k + S.2.1 = 9 → B + 1 ≤ S.1 + f → seR (finR T B f S) (oks v w) = seR (blkW T B k S) (rst13 T B v w)
  | 0, f, S, _, h4, _, _, hk, _ => by omega
  | k + 1, f, S, h0, h8, hc, hr, hk, hf => by
    by_cases c : letR T B S.1 = 98
    · have lt := letR_lt c (by decide)
      obtain ⟨f', rfl⟩ : ∃ f', f = f' + 1 := ⟨f - 1, by omega⟩
      have e1 : blkW T B (k + 1) S = (match blockR T B S with | .inl e => .inl e | .inr S' => blkW T B k S') := if_pos c
      have hi : itemR T B S = blockR T B S := if_pos ⟨c, hr, hc⟩
      rw [e1, fin_s (Or.inr lt), hi]
      cases er : blockR T B S with
      | inl e => rfl
      | inr S' =>
        obtain ⟨i1, i2, i3, i4, -⟩ := blockR_inv er
        have il := blockR_lt er
        exact fin_blk k f' S' (by omega) (by omega) (by omega) (by omega) (by omega) (by omega)
    · have e1 : blkW T B (k + 1) S = .inr S := if_neg c
      rw [e1]
      exact fin_rst 13 f S h0 hc (by omega) (by omega) (fun z => absurd z c) hf
theorem cla_par : claR T B = parR T B := by
  unfold claR parR
  cases lawR T B with
  | inl e => rfl
  | inr q =>
    obtain ⟨v, w, q⟩ := q
    dsimp only
    have e0 : itemR T B (q, 0, 0, 0, zf, zf, zf, zf) = bk1 T B (q, 0, 0, 0, zf, zf, zf, zf) := by
      unfold itemR bk1
      dsimp only
      by_cases c : letR T B q = 98
      · rw [if_pos ⟨c, rfl, rfl⟩, if_pos c]
      · rw [if_neg (fun z => c z.1), if_neg (fun z => absurd z.2.1 (by omega)), if_neg (by omega), if_neg c]
    rw [fin_s (Or.inl rfl), e0]
    cases eb : bk1 T B (q, 0, 0, 0, zf, zf, zf, zf) with
    | inl e => rfl
    | inr S' =>
      have eb2 : blockR T B (q, 0, 0, 0, zf, zf, zf, zf) = .inr S' := by
        unfold bk1 at eb
        by_cases c : letR T B q = 98
        · rw [if_pos c] at eb; exact eb
        · rw [if_neg c] at eb; cases eb
      obtain ⟨i1, i2, i3, i4, -⟩ := blockR_inv eb2
      have il := blockR_lt eb2
      dsimp only at i1 i2 i3 i4 il
      have key := fin_blk (T := T) (B := B) (v := v) (w := w) 8 B S' (by omega) (by omega) (by omega) (by omega) (by omega) (by omega)
      show seR (blkW T B 8 S') (rst13 T B v w) = (match finR T B B S' with | .inl e => .inl e | .inr S => .inr (v, w, S))
      rw [← key]
      cases finR T B B S' <;> rfl
/-- bounds of what was read -/
def PSo (S : PS) : Prop := (∀ j, j < S.2.1 → ∃ c, c ≤ 30 ∧ S.2.2.2.2.1 j = nI c) ∧ ∀ c, c < S.2.2.2.1 → (∃ k, 1 ≤ k ∧ k ≤ 5 ∧ S.2.2.2.2.2.2.1 c = nI k) ∧ ∃ hd, 1 ≤ hd ∧ hd ≤ 9 ∧ S.2.2.2.2.2.2.2 c = nI hd
theorem PSo.item {S S' : PS} (h : PSo S) (e : itemR T B S = .inr S') : PSo S' ∧ 0 < S'.2.1 := by
  unfold itemR at e
  by_cases c1 : letR T B S.1 = 98 ∧ S.2.2.1 = 0 ∧ S.2.2.2.1 = 0
  · rw [if_pos c1] at e
    obtain ⟨i1, i2, i3, i4, ⟨q, q1, q2, q3⟩, i6⟩ := blockR_inv e
    refine ⟨⟨fun j hj => ?_, ?_⟩, by omega⟩
    · rw [q3]
      unfold upd
      by_cases ej : j = S.2.1
      · rw [if_pos ej]; exact ⟨q, by omega, rfl⟩
      · rw [if_neg ej]; exact h.1 j (by omega)
    · rw [i4, i6]; exact h.2
  · rw [if_neg c1] at e
    by_cases c2 : letR T B S.1 = 114 ∧ 0 < S.2.1 ∧ S.2.2.2.1 = 0
    · rw [if_pos c2] at e
      obtain ⟨i1, i2, i3, i4, i5, i6⟩ := restR_inv e
      refine ⟨⟨?_, ?_⟩, by omega⟩
      · rw [i2, i5]; exact h.1
      · rw [i4, i6]; exact h.2
    · rw [if_neg c2] at e
      by_cases c3 : 0 < S.2.1
      · rw [if_pos c3] at e
        obtain ⟨i1, i2, i3, i4, i5, ⟨k, k1, k5, ek⟩, q, q1, q2, eq⟩ := clerkR_inv e
        refine ⟨⟨?_, fun c hc => ?_⟩, by omega⟩
        · rw [i2, i5]; exact h.1
        · rw [ek, eq]
          unfold upd
          by_cases ec : c = S.2.2.2.1
          · rw [if_pos ec, if_pos ec]; exact ⟨⟨k, k1, k5, rfl⟩, q, q1, q2, rfl⟩
          · rw [if_neg ec, if_neg ec]; exact h.2 c (by omega)
      · rw [if_neg c3] at e; cases e
theorem PSo.fin : ∀ (f : Nat) (S S' : PS), PSo S → 0 < S.2.1 → finR T B f S = .inr S' → PSo S' ∧ 0 < S'.2.1
  | 0, S, S', h, h0, e => by cases e; exact ⟨h, h0⟩
  | f + 1, S, S', h, h0, e => by
    by_cases c : S.2.1 = 0 ∨ S.1 < B
    · rw [fin_s c] at e
      cases ei : itemR T B S with
      | inl z => rw [ei] at e; cases e
      | inr S2 =>
        rw [ei] at e
        have q := h.item ei
        exact PSo.fin f S2 S' q.1 q.2 e
    · rw [fin_0 c] at e
      cases e
      exact ⟨h, h0⟩
theorem law_ok {q : Nat} (hl : lawR T B = .inr (v, w, q)) : (∃ r, 1 ≤ r ∧ r ≤ 9 ∧ v = nI r) ∧ ∃ u, u ≤ 10 ∧ w = nI u := by
  unfold lawR at hl
  obtain ⟨-, l1⟩ := sgR_i hl
  obtain ⟨v2, q2, l2, l3⟩ := nuR_i l1
  obtain ⟨-, l4⟩ := sgR_i l3
  obtain ⟨w2, q3, l5, l6⟩ := nuR_i l4
  obtain ⟨-, l7⟩ := sgR_i l6
  cases l7
  obtain ⟨m, m1, m2, m3⟩ := inR_n (a := 1) (b := 9) (by decide) (numR_r l2).1 (by decide)
  obtain ⟨u, u1, u2, u3⟩ := inR_n (a := 0) (b := 10) (by decide) (numR_r l5).1 (by decide)
  exact ⟨⟨m, m1, m2, m3⟩, u, u2, u3⟩
theorem par_ok {S : PS} (h : parR T B = .inr (v, w, S)) : (∃ r, 1 ≤ r ∧ r ≤ 9 ∧ v = nI r) ∧ (∃ u, u ≤ 10 ∧ w = nI u) ∧ PSo S ∧ 0 < S.2.1 := by
  unfold parR at h
  cases el : lawR T B with
  | inl e => rw [el] at h; cases h
  | inr qq =>
    obtain ⟨v', w', q0⟩ := qq
    rw [el] at h
    dsimp only at h
    rw [fin_s (Or.inl rfl)] at h
    have hlo := law_ok el
    cases ei : itemR T B (q0, 0, 0, 0, zf, zf, zf, zf) with
    | inl e => rw [ei] at h; cases h
    | inr S2 =>
      rw [ei] at h
      dsimp only at h
      have p0 : PSo (q0, 0, 0, 0, zf, zf, zf, zf) := ⟨fun j hj => absurd hj (Nat.not_lt_zero j), fun j hj => absurd hj (Nat.not_lt_zero j)⟩
      have p1 := p0.item ei
      cases ef : finR T B B S2 with
      | inl e => rw [ef] at h; cases h
      | inr S3 =>
        rw [ef] at h
        cases h
        have p2 := PSo.fin B S2 S p1.1 p1.2 ef
        exact ⟨hlo.1, hlo.2, p2⟩
end Q17
