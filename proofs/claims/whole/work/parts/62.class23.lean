/-! ===== the class: the search's parts ===== -/
section C27
variable {d y n cm r s m : Nat} {H : hp} {K : Nat → Nat} {V W : Nat → Nat → Int32} {kk : Rt}
theorem c_tellsWritings {a' a i : Nat} (ea : a' = a) (hS : CS H K (y + 1)) (hn : Pn H (hfR H 604 (y + 1)) n cm) (hA : AR H K a (300 + r) s) (hr : r < 8) (hs : s ≤ 40) (hi : i + 2 * m ≤ s) (ht : (∀ w, w < m → inB (W (300 + r) (i + 2 * w)) cm ∧ inR (W (300 + r) (i + 2 * w + 1)) 1 30) → kk (some (.inl 1)) (CU H K V W)) (hf : ¬ (∀ w, w < m → inB (W (300 + r) (i + 2 * w)) cm ∧ inR (W (300 + r) (i + 2 * w + 1)) 1 30) → kk (some (.inl 0)) (CU H K V W)) : CL (d + 2) mX6_tellsWritings 0 0 [.inr (.inr (7, y + 1)), .inr (.inr (20, a')), .inl (nI i), .inl (nI m)] (CU H K V W) kk := by
  subst ea
  obtain ⟨u1, u2, u3⟩ := hA
  refine mw T_X6_tellsWritings (fun Wm go => go (cut1 3) 60 0 _ _ _ _ _ ?_)
  refine upto (n := m) (P := fun w => (∀ j, j < w → inB (W (300 + r) (i + 2 * j)) cm ∧ inR (W (300 + r) (i + 2 * j + 1)) 1 30) → Wm 3 [some (.inr (.inr (7, y + 1))), some (.inr (.inr (20, a'))), some (.inl (nI i)), some (.inl (nI m)), some (.inl (nI w))] [] (CU H K V W) 0 0) (fun w hw ih hj => ?_) 0 (Nat.zero_le _) (fun j hj => absurd hj (Nat.not_lt_zero j))
  refine go (cut1 3) 60 3 _ _ _ _ _ ?_
  refine icg rfl rfl (by omega) (by omega) (fun c => ?_) (fun c => ?_)
  · have e : w = m := by omega
    subst e
    exact And.intro (Or.inr rfl) (ht hj)
  · refine cld u1 u2 (by omega) u3 (by omega) (i + 2 * w) (ix2 i w) (by omega) ?_
    refine nz hS.pl.1.1 ?_
    refine c_hasClerk (CU_e _ _ _ _ _ _) hS.pl hn (fun v => br1 ?_) (fun v => br0 (And.intro (Or.inl rfl) (hf (fun z => v (z w c).1))))
    refine cld u1 u2 (by omega) u3 (by omega) (i + 2 * w + 1) (show nI i + 2 * nI w + 1 = nI (i + 2 * w + 1) by rw [ix2, nI_1]) (by omega) ?_
    refine c_isLines (fun v2 => br1 ?_) (fun v2 => br0 (And.intro (Or.inl rfl) (hf (fun z => v2 (z w c).2))))
    have e := ih c (fun j hj' => by
      by_cases q : j = w
      · rw [q]; exact ⟨v, v2⟩
      · exact hj j (by omega))
    rw [← nI_1] at e
    exact e
end C27
/-- z is the search -/
def SE (H : hp) (K : Nat → Nat) (z : Nat) : Prop := (z ≠ 0 ∧ K z = 2) ∧ SS H K (hfR H 400 z) 28 ∧ AR H K (hfR H 401 z) 6 4 ∧ AR H K (hfR H 402 z) 7 4 ∧ AR H K (hfR H 403 z) 8 4
section C28
variable {d z p n cm m t : Nat} {H : hp} {K : Nat → Nat} {V W : Nat → Nat → Int32} {kk : Rt}
theorem c_sbegin {t' t0 : Nat} (hK : KI K) (hE : SE H K (z + 1)) (et : t' = t0) (hT : SS H K t0 t) (hm : m ≤ 4) (hk : kk none (CU H K (beV (up2 (up2 V 404 2 (nI m)) 405 2 (-1)) 28 t) (beW W 28 t))) : CL (d + 2) mX4_begin 0 0 [.inr (.inr (5, z + 1)), .inr (.inr (6, t')), .inl (nI m)] (CU H K V W) kk := by
  subst et
  obtain ⟨⟨e1, e2⟩, e3, -⟩ := hE
  have e : (if (4 : Int32) < nI m then 4 else nI m) = nI m := by
    rw [if_neg]
    exact Int32.not_lt.mpr ((nI_leI (b := 4) (by omega) (by omega)).mpr hm)
  refine mw T_X4_begin (fun Wm go => go (cut1 6) 60 0 _ _ _ _ _ ?_)
  show Wm 6 [some (.inr (.inr (5, z + 1))), some (.inr (.inr (6, t'))), some (.inl (nI m))] [.inl (if (4 : Int32) < nI m then 4 else nI m), .inr (.inr (5, z + 1))] (CU H K V W) 0 0
  rw [e]
  refine go (cut1 14) 60 6 _ _ _ _ _ ?_
  refine wmc (Wm := Wm) (h' := CU H K (up2 (up2 V 404 2 (nI m)) 405 2 (-1)) W) ?_ rfl (by rw [CU_wI hK e2 (by decide), CU_wI hK e2 (by decide)])
  refine go cut0 60 14 _ _ _ _ _ ?_
  refine nz e3.1.1 ?_
  exact c_become hK rfl e3 rfl hT hk
theorem c_keepWay {v : Int32} (hK : KI K) (hE : SE H K (z + 1)) (h5 : V 404 2 = nI m) (hm : m ≤ 4) (hk : kk none (CU H K (up2 V 405 2 v) (va_up W 8 (va_cpy (W 7) (W 8) 0 0 m)))) : CL (d + 1) mX4_keepWay 0 0 [.inr (.inr (5, z + 1)), .inl v] (CU H K V W) kk := by
  obtain ⟨⟨e1, e2⟩, e3, -, ⟨w1, w2, w3⟩, ⟨f1, f2, f3⟩⟩ := hE
  refine mw T_X4_keepWay (fun Wm go => go (cut1 5) 60 0 _ _ _ _ _ ?_)
  refine wmc (Wm := Wm) ?_ rfl (CU_wI hK e2 (by decide))
  refine go (cut1 19) 60 5 _ _ _ _ _ ?_
  have e5 : hfI (CU H K (up2 V 405 2 v) W) 404 (z + 1) = nI m := by
    rw [CU_fI e2 (by decide), up2_nf (by decide)]; exact h5
  show Wm 19 [some (.inr (.inr (5, z + 1))), some (.inl v)] [.inl (hfI (CU H K (up2 V 405 2 v) W) 404 (z + 1)), .inl 0, .inr (.inr (20, hfR H 403 (z + 1))), .inl 0, .inr (.inr (20, hfR H 402 (z + 1)))] (CU H K (up2 V 405 2 v) W) 0 0
  rw [e5]
  refine go cut0 60 19 _ _ _ _ _ ?_
  refine nz w1 (nz f1 (And.intro ⟨by decide, by decide, Int32.not_lt.mpr ((nI_leI (a := 0) (by omega) (by omega)).mpr (Nat.zero_le m)), ?_, ?_⟩ ?_))
  · show 0 + (nI m).toNatClampNeg ≤ haL H (hfR H 402 (z + 1))
    rw [w3, nI_clamp (by omega)]; omega
  · show 0 + (nI m).toNatClampNeg ≤ haL H (hfR H 403 (z + 1))
    rw [f3, nI_clamp (by omega)]; omega
  · refine kkc hk rfl ?_
    rw [nI_clamp (by omega)]
    exact CU_cpy hK w2 f2 (by decide) (by decide)
end C28
/-- a fold over the BLOCKs -/
def iterB {α : Type} (f : Nat → α → α) : Nat → α → α
  | 0, r => r
  | b + 1, r => f b (iterB f b r)
abbrev cnP (on : Nat → Int32) (n : Nat) (a : Nat → Int32) : Int32 := bitsI (stP on (posB a) n)
def tbF (on : Nat → Int32) (n m : Nat) (nd : Nat → Int32) : Nat → (Nat → Int32) → (Nat → Int32) → Int32 × (Nat → Int32) → Int32 × (Nat → Int32)
  | 0, a, w, r => if r.1 < cnP on n a then (cnP on n a, w) else r
  | k + 1, a, w, r => if r.1 < cnP on n a then iterB (fun b r => if a b < nd (m - (k + 1)) then r else tbF on n m nd k (upd a b (a b - nd (m - (k + 1)))) (upd w (m - (k + 1)) (nI b)) r) n r else r
