/-! ===== pairs: drop, row ===== -/
section Q12
variable {H : hp} {K : Nat → Nat} {V W : Nat → Nat → Int32} {y x n cm at' am by' tm t : Nat} {I : Nat → Int32} {A : Nat → Nat → Int32} {rs : Nat → Option Nat}
theorem b_drop {rw' : Int32} (hmv : MVal H (x + 1) I A) (hR : RD H K V W (y + 1) (x + 1) I A n cm at' am by' tm rs t) : Both 0 0 mX6_drop mX7_drop [.inl rw'] (y + 1) (x + 1) (CU H K V W) (INV (y + 1) (x + 1) (t + 1)) := by
  intro kk1 hk1
  have hrw := hR.1.2.2.2.2.1
  have hri := hR.2.2.1
  refine c_drop hR.cs hrw (fun q => ro hmv hR hk1 (fun kk2 h2 => m_drop hR.ms hri (fun _ => h2 A (EA.rf A)) (fun r hr e _ => absurd (by rw [e]; exact inB_nI hr (by omega)) q) (fun r s hr e _ => absurd (by rw [e]; exact inB_nI hr (by omega)) q)))
    (fun r hr e en => gen hmv hR.sm hk1 (fun kk2 hk2 => m_drop hR.ms hri (fun q => absurd (by rw [e]; exact inB_nI hr (by omega)) q) (fun r' hr' e' _ => hk2 _ _ hR.t1.stat.toX) (fun r' s hr' e' es => ?_)))
    (fun r s hr e es => ?_)
  · have er : r = r' := nIj (by omega) (by omega) (e.symm.trans e')
    subst er
    rw [en] at es; cases es
  · obtain ⟨H2, eH2⟩ : ∃ H2 : hp, H2 = waR H (hfR H 600 (y + 1)) (va_up (haR H (hfR H 600 (y + 1))) r 0) := ⟨_, rfl⟩
    have hmv2 : MVal H2 (x + 1) I A := by rw [eH2]; exact hmv
    have hsm2 : SHm H2 K (x + 1) := by rw [eH2]; exact hR.sm
    rw [← eH2]
    have gen2 := gen (v := (nI s)) (V' := up2 V 604 1 0) (W' := W) hmv2 hsm2 hk1
    refine gen2 (fun kk2 hk2 => m_drop (h := CU H2 K (up2 V 604 1 0) W) hsm2.1 hri (fun q => absurd (by rw [e]; exact inB_nI hr (by omega)) q) (fun r' hr' e' en => ?_) (fun r' s' hr' e' es' => ?_))
    · have er : r = r' := nIj (by omega) (by omega) (e.symm.trans e')
      subst er
      rw [en] at es; cases es
    · have er : r = r' := nIj (by omega) (by omega) (e.symm.trans e')
      subst er
      rw [es] at es'; cases es'
      obtain ⟨⟨m1, m2, m3, m4, m5, m6⟩, m7, m8, m9⟩ := hR.2.2.2.2.2.1
      obtain ⟨g1, g2, g3, g4, g5, g6, g7, g8, g9⟩ := hR.1
      have n05 : hfR H 600 (y + 1) ≠ hfR H 610 (y + 1) := fun z => by
        have a1 := g1.rows.2.1
        have a2 := g1.ipl.2.1
        rw [z] at a1
        omega
      have rh : ∀ q, rho H2 (y + 1) q = if q = r then 0 else rho H (y + 1) q := by
        intro q
        rw [eH2]
        show va_up H.2.2.2.2.1 (hfR H 600 (y + 1)) _ (hfR H 600 (y + 1)) q = _
        rw [va_up_self]
        by_cases c : q = r
        · rw [if_pos c, c, va_up_self]
        · rw [if_neg c, va_up_ne _ _ c]
      have hip : ∀ k, ip H2 (y + 1) k = ip H (y + 1) k := by
        intro k
        rw [eH2]
        show va_up H.2.2.2.2.1 (hfR H 600 (y + 1)) _ (hfR H 610 (y + 1)) k = _
        rw [va_up_ne _ _ (fun z => n05 z.symm)]
        rfl
      have hSH : SHP H2 K (y + 1) (x + 1) (fun q => if q = r then none else rs q) n cm := by
        refine ⟨?_, ?_, ?_, ?_, fun q hq => ?_, ?_, ?_, fun k hk hi => ?_, hsm2⟩
        · rw [eH2]; exact g1.wra (by rw [g1.rows.2.1]; decide) (by rw [g1.rows.2.1]; decide)
        · rw [eH2]; exact g2
        · rw [eH2]; exact g3
        · rw [eH2]; exact g4
        · rw [rh q]
          by_cases c : q = r
          · rw [if_pos c]; exact Or.inl ⟨if_pos c, rfl⟩
          · rw [if_neg c]
            rcases g5 q hq with ⟨z1, z2⟩ | ⟨s', z1, z2⟩
            · exact Or.inl ⟨(if_neg c).trans z1, z2⟩
            · refine Or.inr ⟨s', (if_neg c).trans z1, ?_⟩
              rw [eH2]; exact z2
        · rw [eH2]; exact g6
        · rw [eH2]; exact g7
        · rw [hip] at hi ⊢
          have := g8 k hk hi
          rw [eH2]; exact this
      refine hk2 _ _ (RD.misc2 (H2 := H2) (K2 := K) (V2 := up2 V 604 1 0) (W2 := W) (I2 := upd I 700 0) (A2 := va_up A 701 (upd (A 701) r (-1))) (by2 := by') (tm2 := tm) (rs2 := fun q => if q = r then none else rs q) hR.t1 hSH (by rw [eH2]; rfl) (fun q hq => ?_) (fun k hk => hip k) (fun s hs => ⟨up2_nf (by decide), up2_nf (by decide)⟩) (fun s hs => ⟨rfl, rfl⟩) (fun k hk => if_neg (by omega)) (fun f hf => va_up_ne _ _ (by omega)) hR.2.1.2.2.2.2.1 hR.2.1.2.2.2.2.2 (fun q hq => ?_) ⟨⟨m1, m2, m3, m4, ?_, m6⟩, ?_, fun j hj => ?_, fun q hq s' hs' => ?_⟩).toX
      · rw [eH2]; exact ⟨fun f => rfl, fun f hf => rfl⟩
      · rw [va_up_self]
        unfold upd
        by_cases c : q = r
        · rw [if_pos c]; exact Or.inl ⟨if_pos c, rfl⟩
        · rw [if_neg c]
          rcases hri q hq with ⟨z1, z2⟩ | ⟨s', z1, z2⟩
          · exact Or.inl ⟨(if_neg c).trans z1, z2⟩
          · exact Or.inr ⟨s', (if_neg c).trans z1, z2⟩
      · rw [up2_eq]; rfl
      · rw [va_up_ne _ _ (by decide)]; exact m7
      · rw [va_up_ne _ _ (by decide)]; exact m8 j hj
      · rw [up2_nf (by decide), va_up_ne A _ (show (702 : Nat) ≠ 701 by decide), va_up_ne A _ (show (703 : Nat) ≠ 701 by decide)]
        by_cases c : q = r
        · dsimp only at hs'
          rw [if_pos c] at hs'; cases hs'
        · dsimp only at hs'
          rw [if_neg c] at hs'
          exact m9 q hq s' hs'
/-- codes anew: a row's -/
def rsl (K : Nat → Nat) (r xx a : Nat) : Nat → Nat := fun z => if z = xx then 310 + r else if z = a then 300 + r else if K z = 310 + r ∨ K z = 300 + r then 400 else K z
theorem rsl_o {r xx a z : Nat} (h1 : z ≠ xx) (h2 : z ≠ a) (h3 : K z ≠ 310 + r) (h4 : K z ≠ 300 + r) : rsl K r xx a z = K z := by
  unfold rsl
  rw [if_neg h1, if_neg h2, if_neg (fun z => z.elim h3 h4)]
theorem rsl_400 {r xx a z : Nat} (h1 : z ≠ xx) (h2 : z ≠ a) (h3 : 400 ≤ K z) (hr : r < 8) : rsl K r xx a z = K z := rsl_o h1 h2 (by omega) (by omega)
theorem rsl_x {r xx a : Nat} : rsl K r xx a xx = 310 + r := if_pos rfl
theorem rsl_a {r xx a : Nat} (h : a ≠ xx) : rsl K r xx a a = 300 + r := by
  unfold rsl
  rw [if_neg h, if_pos rfl]
theorem rsl_ki {r xx a : Nat} (hK : KI K) (hr : r < 8) (h : a ≠ xx) : KI (rsl K r xx a) := by
  intro z z' h1 h2
  have cases' : ∀ z, rsl K r xx a z < 400 → (z = xx ∧ rsl K r xx a z = 310 + r) ∨ (z = a ∧ rsl K r xx a z = 300 + r) ∨ (rsl K r xx a z = K z ∧ K z ≠ 310 + r ∧ K z ≠ 300 + r ∧ K z < 400) := by
    intro z hz'
    by_cases e1 : z = xx
    · subst e1; exact Or.inl ⟨rfl, rsl_x⟩
    · by_cases e2 : z = a
      · subst e2; exact Or.inr (Or.inl ⟨rfl, rsl_a e1⟩)
      · by_cases e3 : K z = 310 + r ∨ K z = 300 + r
        · unfold rsl at hz'
          rw [if_neg e1, if_neg e2, if_pos e3] at hz'
          omega
        · have e4 := rsl_o (K := K) (r := r) e1 e2 (fun w => e3 (Or.inl w)) (fun w => e3 (Or.inr w))
          rw [e4] at hz'
          exact Or.inr (Or.inr ⟨e4, fun w => e3 (Or.inl w), fun w => e3 (Or.inr w), hz'⟩)
  have h3 : rsl K r xx a z' < 400 := by omega
  rcases cases' z h1 with ⟨a1, a2⟩ | ⟨a1, a2⟩ | ⟨a1, a2, a3, a4⟩ <;> rcases cases' z' h3 with ⟨b1, b2⟩ | ⟨b1, b2⟩ | ⟨b1, b2, b3, b4⟩
  · rw [a1, b1]
  · omega
  · omega
  · omega
  · rw [a1, b1]
  · omega
  · omega
  · omega
  · rw [a1, b1] at h2
    exact hK z z' a4 h2
end Q12
