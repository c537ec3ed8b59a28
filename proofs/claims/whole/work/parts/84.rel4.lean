/-! ===== pairs: layers, shares, rains ===== -/
theorem hi_ly {onx : Int32} {L L' : Nat → Int32} : ∀ u, u ≤ 8 → (∀ j, j < u → L j = L' j ∧ ∃ v, v ≤ j ∧ L' j = nI v) → ∃ m, m ≤ u ∧ lyI onx L' u = nI m ∧ hiF onx L u = nI m - 1
  | 0, _, _ => ⟨0, Nat.le_refl _, rfl, rfl⟩
  | u + 1, hu, h => by
    obtain ⟨m, m1, m2, m3⟩ := hi_ly (onx := onx) u (by omega) (fun j hj => h j (by omega))
    obtain ⟨e1, v, v1, v2⟩ := h u (by omega)
    show ∃ m, m ≤ u + 1 ∧ (if hasB onx (nI u) then maxI (lyI onx L' u) (L' u + 1) else lyI onx L' u) = nI m ∧ (if hasB onx (nI u) ∧ hiF onx L u < L u then L u else hiF onx L u) = nI m - 1
    rw [m2, m3, e1, v2, nI_1]
    have cmp : nI m - 1 < nI v ↔ m < v + 1 := by
      rw [Int32.lt_iff_toInt_lt, show (1 : Int32) = nI 1 from rfl, pk_sub_toInt (by omega) (by omega), nI_toInt (by omega)]
      omega
    by_cases c : hasB onx (nI u)
    · rw [if_pos c]
      by_cases c2 : m < v + 1
      · refine ⟨v + 1, by omega, ?_, ?_⟩
        · show (if nI m < nI (v + 1) then nI (v + 1) else nI m) = _
          rw [if_pos ((nI_ltI (by omega) (by omega)).mpr c2)]
        · rw [if_pos ⟨c, cmp.mpr c2⟩, ← nI_1, show (1 : Int32) = nI 1 from rfl, Int32.add_sub_cancel]
      · refine ⟨m, by omega, ?_, ?_⟩
        · show (if nI m < nI (v + 1) then nI (v + 1) else nI m) = _
          rw [if_neg (fun z => c2 ((nI_ltI (by omega) (by omega)).mp z))]
        · rw [if_neg (fun z => c2 (cmp.mp z.2))]
    · rw [if_neg c, if_neg (fun z => c z.1)]
      exact ⟨m, by omega, rfl, rfl⟩
theorem lay_eq {on on' L0 : Nat → Int32} (ho : ∀ j, j < 8 → on j = on' j) : ∀ k, k ≤ 8 → ∀ j, j < k → layF on' L0 k j = lyF on k j ∧ ∃ v, v ≤ j ∧ lyF on k j = nI v
  | 0, _, j, hj => absurd hj (Nat.not_lt_zero j)
  | k + 1, hk, j, hj => by
    have ih := lay_eq (L0 := L0) ho k (by omega)
    show (if j = k then hiF (on' k) (layF on' L0 k) k + 1 else layF on' L0 k j) = (if j = k then lyI (on k) (lyF on k) k else lyF on k j) ∧ ∃ v, v ≤ j ∧ (if j = k then lyI (on k) (lyF on k) k else lyF on k j) = nI v
    by_cases c : j = k
    · rw [if_pos c, if_pos c]
      obtain ⟨m, m1, m2, m3⟩ := hi_ly (onx := on' k) (L := layF on' L0 k) (L' := lyF on k) k (by omega) ih
      rw [ho k (by omega), m2, m3, Int32.sub_add_cancel]
      exact ⟨rfl, m, by omega, rfl⟩
    · rw [if_neg c, if_neg c]
      exact ih j (by omega)
def smN (g : Nat → Nat) : Nat → Nat
  | 0 => 0
  | k + 1 => smN g k + g k
theorem smN_I {f : Nat → Int32} {g : Nat → Nat} : ∀ k, (∀ j, j < k → f j = nI (g j)) → smI f k = nI (smN g k)
  | 0, _ => rfl
  | k + 1, h => by
    show smI f k + f k = nI (smN g k + g k)
    rw [smN_I k (fun j hj => h j (by omega)), h k (by omega), nI_add]
theorem smN_le {g : Nat → Nat} {B : Nat} : ∀ k, (∀ j, j < k → g j ≤ B) → smN g k ≤ k * B
  | 0, _ => Nat.zero_le _
  | k + 1, h => by
    have h1 := smN_le k (fun j hj => h j (by omega))
    have h2 := h k (by omega)
    show smN g k + g k ≤ (k + 1) * B
    rw [Nat.succ_mul]
    omega
theorem smN_ge {g : Nat → Nat} : ∀ k j, j < k → g j ≤ smN g k
  | 0, j, h => absurd h (Nat.not_lt_zero j)
  | k + 1, j, h => by
    show g j ≤ smN g k + g k
    by_cases c : j = k
    · rw [c]; omega
    · have := smN_ge (g := g) k j (by omega)
      omega
section Q7
variable {H : hp} {K : Nat → Nat} {V W : Nat → Nat → Int32} {y x n cm at' am by' tm t : Nat} {I : Nat → Int32} {A : Nat → Nat → Int32} {rs : Nat → Option Nat}
theorem b_layer {bl : Int32} (hmv : MVal H (x + 1) I A) (hR : RD H K V W (y + 1) (x + 1) I A n cm at' am by' tm rs t) : Both 0 0 mX6_layer mX7_layer [.inl bl] (y + 1) (x + 1) (CU H K V W) (INV (y + 1) (x + 1) (t + 1)) := by
  intro kk1 hk1
  have n8 := hR.n8
  refine c_layer hR.cs hR.pn (fun c => ro hmv hR hk1 (fun kk2 h2 => m_layer hR.ms hR.mi (fun _ => h2 A (EA.rf A)) (fun b hb e => absurd (by rw [e]; exact inB_nI hb (by omega)) c))) (fun b hb e => ?_)
  refine ro hmv hR hk1 (fun kk2 h2 => m_layer hR.ms hR.mi (fun z => absurd (by rw [e]; exact inB_nI hb (by omega)) z) (fun b' hb' e' => ?_))
  have ec : b = b' := nIj (by omega) (by omega) (e.symm.trans e')
  subst ec
  refine kki (h2 _ (EA.u0 A _)) ?_ rfl
  rw [hR.1.2.2.2.2.1 n hR.pn.1.1 n8 b (by omega), lyF_at _ n hb]
  exact (lay_eq (fun j hj => hR.on hj) (b + 1) (by omega) b (by omega)).1
theorem b_share {cl wh : Int32} (ht : t ≤ 1000) (hmv : MVal H (x + 1) I A) (hR : RD H K V W (y + 1) (x + 1) I A n cm at' am by' tm rs t) : Both 0 0 mX6_share mX7_share [.inl cl, .inl wh] (y + 1) (x + 1) (CU H K V W) (INV (y + 1) (x + 1) (t + 1)) := by
  intro kk1 hk1
  have c4 := hR.c4
  obtain ⟨lo, hlo⟩ : ∃ lo : Nat → Nat, ∀ c, c < 4 → lo c ≤ 30 * t ∧ A 715 (8 + c) = nI (lo c) := by
    refine ⟨fun c => (A 715 (8 + c)).toNatClampNeg, fun c hc => ?_⟩
    obtain ⟨l, l1, l2, -⟩ := hR.bw.2.1 c hc
    show (A 715 (8 + c)).toNatClampNeg ≤ 30 * t ∧ A 715 (8 + c) = nI (A 715 (8 + c)).toNatClampNeg
    rw [l2, nI_clamp (by omega)]
    exact ⟨l1, rfl⟩
  have hsa : smI (fun k => A 715 (8 + k)) cm = nI (smN lo cm) := smN_I cm (fun j hj => (hlo j (by omega)).2)
  have hsb : smN lo cm < 2 ^ 30 := by
    have h1 := smN_le (B := 30 * t) cm (fun j hj => (hlo j (by omega)).1)
    have h2 : cm * (30 * t) ≤ 4 * (30 * t) := Nat.mul_le_mul_right _ c4
    omega
  have m1 : ∀ c, c < cm → A 715 (8 + c) = nI (lo c) ∧ lo c ≤ smN lo cm := fun c hc => ⟨(hlo c (by omega)).2, smN_ge cm c hc⟩
  refine c_share (lo := lo) (sa := smN lo cm) hR.cs hR.pn (fun c hc => ⟨by rw [hR.w2 (by omega)]; exact (hlo c (by omega)).2, smN_ge cm c hc⟩) (by rw [hR.s4]; exact hsa) hsb (fun c => ro hmv hR hk1 (fun kk2 h2 => m_share hR.ms hR.mi m1 hsa hsb (fun _ => h2 A (EA.rf A)) (fun c' hc e q => absurd ⟨by rw [e]; exact inB_nI hc (by omega), inR2.mp q⟩ c))) (fun c hc e q => ro hmv hR hk1 (fun kk2 h2 => m_share hR.ms hR.mi m1 hsa hsb (fun z => absurd ⟨by rw [e]; exact inB_nI hc (by omega), inR2.mpr q⟩ z) (fun c' hc' e' q' => ?_)))
  have ec : c = c' := nIj (by omega) (by omega) (e.symm.trans e')
  subst ec
  refine kki (h2 A (EA.rf A)) ?_ rfl
  have hge := smN_ge (g := lo) cm c hc
  by_cases z : lo c = 0
  · rw [if_pos z]
    by_cases z2 : smN lo cm = 0
    · rw [if_pos z2]
      rcases w01.mp q' with w | w <;> subst w <;> rfl
    · rw [if_neg z2, z, Nat.gcd_zero_left]
      rcases w01.mp q' with w | w
      · subst w
        rw [if_pos rfl, Nat.zero_div]; rfl
      · subst w
        rw [if_neg (by decide), Nat.div_self (by omega)]; rfl
  · rw [if_neg z, if_neg (by omega)]
theorem b_rains {bl pp wh : Int32} (hmv : MVal H (x + 1) I A) (hR : RD H K V W (y + 1) (x + 1) I A n cm at' am by' tm rs t) : BothL 0 0 mX6_rains mX7_rains [.inl bl, .inl pp, .inl wh] (y + 1) (x + 1) (CU H K V W) (INV (y + 1) (x + 1) (t + 1)) := by
  intro kk1 hk1
  have n8 := hR.n8
  have h256 := p256 n8
  have eca : ∀ q b, q ≤ 10 → ∀ k, k ≤ 2 ^ n → caN H (hfR H 604 (y + 1)) n W q b k = abN A n q b k := by
    intro q b hq k
    induction k with
    | zero => intro _; rfl
    | succ k ih =>
      intro hk
      show caN H (hfR H 604 (y + 1)) n W q b k + (if hasB (stX H (hfR H 604 (y + 1)) n W (nI k)) (nI b) then q ^ pc8 k * (10 - q) ^ (n - pc8 k) else 0) = abN A n q b k + (if hasB (stW A n (nI k)) (nI b) then prN q k n else 0)
      rw [ih (by omega), hR.sx, prN_eq hq, cbN_n (m := k) (by omega) n8]
  have hlt : ∀ q b, q ≤ 10 → abN A n q b (2 ^ n) < 2 ^ 62 := by
    intro q b hq
    have h1 := abN_le (A := A) (n := n) (b := b) hq (2 ^ n)
    have h2 : 2 ^ n * 10 ^ n ≤ 256 * 10 ^ 8 := Nat.mul_le_mul h256 (p10 n8)
    omega
  refine c_rains hR.cs hR.pn (fun k hk => by rw [cbN_n hk n8]; exact cbN_le k n) (fun q b hq => by rw [eca q b hq _ (Nat.le_refl _)]; exact hlt q b hq) (fun c => roL hmv hR hk1 (fun kk2 h2 => m_rains hR.ms hR.mi (fun _ => h2 A (EA.rf A)) (fun A' b q hb e hq e2 w _ => absurd ⟨by rw [e]; exact inB_nI hb (by omega), by rw [e2]; exact ⟨(nI_leI (a := 0) (by omega) (by omega)).mpr (Nat.zero_le q), (nI_leI (b := 10) (by omega) (by omega)).mpr hq⟩, inR2.mp w⟩ c))) (fun b q C hb e hq e2 w eC => roL hmv hR hk1 (fun kk2 h2 => m_rains hR.ms hR.mi (fun z => absurd ⟨by rw [e]; exact inB_nI hb (by omega), by rw [e2]; exact ⟨(nI_leI (a := 0) (by omega) (by omega)).mpr (Nat.zero_le q), (nI_leI (b := 10) (by omega) (by omega)).mpr hq⟩, inR2.mpr w⟩ z) (fun A' b' q' hb' e' hq' e2' w' eA => ?_)))
  have ec : b = b' := nIj (by omega) (by omega) (e.symm.trans e')
  subst ec
  have ed : q = q' := nIj (by omega) (by omega) (e2.symm.trans e2')
  subst ed
  refine kkc (h2 A' eA) ?_ rfl
  rw [eca q b hq _ (Nat.le_refl _)] at eC
  rw [← eC]
  have p0 : 0 < 10 ^ n := Nat.pow_pos (by omega)
  by_cases z : C = 0
  · rw [if_pos z, z, Nat.gcd_zero_left]
    rcases w01.mp w' with w | w
    · subst w
      rw [if_pos rfl, Nat.zero_div]; rfl
    · subst w
      rw [if_neg (by decide), Nat.div_self p0]; rfl
  · rw [if_neg z]
end Q7
