/-! ===== the class's heap: K tells which cell a code is ===== -/
def KI (K : Nat → Nat) : Prop := ∀ z z', K z < 480 → K z = K z' → z = z'
def CU (H : hp) (K : Nat → Nat) (V : Nat → Nat → Int32) (W : Nat → Nat → Int32) : hp :=
  (fun f z => if K z < 400 then V f (K z) else H.1 f z, H.2.1, fun z => if K z < 400 then W (K z) else H.2.2.1 z, H.2.2.2)
section C1
variable {H : hp} {K : Nat → Nat} {V W : Nat → Nat → Int32}
theorem CU_fI {z s f : Nat} (hz : K z = s) (hs : s < 400) : hfI (CU H K V W) f z = V f s := by
  show (if K z < 400 then V f (K z) else H.1 f z) = V f s
  rw [hz, if_pos hs]
theorem CU_fIo {z f : Nat} (hz : 400 ≤ K z) : hfI (CU H K V W) f z = hfI H f z := by
  show (if K z < 400 then V f (K z) else H.1 f z) = _
  rw [if_neg (by omega)]; rfl
theorem CU_aI {z s : Nat} (hz : K z = s) (hs : s < 400) : haI (CU H K V W) z = W s := by
  show (if K z < 400 then W (K z) else H.2.2.1 z) = W s
  rw [hz, if_pos hs]
theorem CU_aIo {z : Nat} (hz : 400 ≤ K z) : haI (CU H K V W) z = haI H z := by
  show (if K z < 400 then W (K z) else H.2.2.1 z) = _
  rw [if_neg (by omega)]; rfl
theorem CU_wI {z s f : Nat} {v : Int32} (hK : KI K) (hz : K z = s) (hs : s < 400) : wfI (CU H K V W) f z v = CU H K (up2 V f s v) W := by
  unfold wfI CU
  refine Prod.ext ?_ rfl
  funext f' z'
  show up2 (fun f z => if K z < 400 then V f (K z) else H.1 f z) f z v f' z' = (if K z' < 400 then up2 V f s v f' (K z') else H.1 f' z')
  unfold up2
  by_cases h1 : f' = f
  · rw [if_pos h1, if_pos h1]
    by_cases h2 : z' = z
    · rw [if_pos h2, h2, hz, if_pos hs, if_pos rfl]
    · rw [if_neg h2]
      dsimp only
      by_cases h3 : K z' < 400
      · rw [if_pos h3, if_pos h3, if_neg (fun e => h2 (hK z' z (by omega) (by rw [e, hz])))]
      · rw [if_neg h3, if_neg h3]
  · rw [if_neg h1, if_neg h1]
theorem CU_wA {z s : Nat} {g : Nat → Int32} (hK : KI K) (hz : K z = s) (hs : s < 400) : waI (CU H K V W) z g = CU H K V (va_up W s g) := by
  unfold waI CU
  refine Prod.ext rfl (Prod.ext rfl (Prod.ext ?_ rfl))
  funext z'
  show va_up (fun z => if K z < 400 then W (K z) else H.2.2.1 z) z g z' = (if K z' < 400 then va_up W s g (K z') else H.2.2.1 z')
  by_cases h2 : z' = z
  · subst h2
    rw [va_up_self, hz, if_pos hs, va_up_self]
  · rw [va_up_ne _ _ h2]
    by_cases h3 : K z' < 400
    · rw [if_pos h3, if_pos h3, va_up_ne _ _ (fun e => h2 (hK z' z (by omega) (by rw [e, hz])))]
    · rw [if_neg h3, if_neg h3]
theorem CU_wR (f z v : Nat) : wfR (CU H K V W) f z v = CU (wfR H f z v) K V W := rfl
theorem CU_waR (z : Nat) (g : Nat → Nat) : waR (CU H K V W) z g = CU (waR H z g) K V W := rfl
theorem CU_e (H : hp) (K : Nat → Nat) (V W : Nat → Nat → Int32) (f y : Nat) : hfR (CU H K V W) f y = hfR H f y := rfl
variable {nx : Nx} {n cu su : Nat} {L : Lo} {S : List pv} {a s m k : Nat} {i v : Int32}
/-- loads and stores: a the array's code, s its slot, m its length -/
theorem cld (ha : a ≠ 0) (hs : K a = s) (h4 : s < 400) (hm : haL H a = m) (m31 : m < 1000) (k : Nat) (hi : i = nI k) (hk : k < m) (b : nx n L (.inl (W s k) :: S) (CU H K V W) cu su) : if a = 0 then False else vp_in i (haL (CU H K V W) a) ∧ nx n L (.inl (haI (CU H K V W) a i.toNatClampNeg) :: S) (CU H K V W) cu su := by
  subst hi
  refine nz ha ⟨?_, ?_⟩
  · show vp_in (nI k) (haL H a)
    rw [hm]; exact vp_in_nI hk (by omega)
  · rw [CU_aI hs h4, nI_clamp (by omega)]; exact b
theorem cldo (ha : a ≠ 0) (hs : 400 ≤ K a) (hm : haL H a = m) (m31 : m < 1000) (k : Nat) (hi : i = nI k) (hk : k < m) (b : nx n L (.inl (haI H a k) :: S) (CU H K V W) cu su) : if a = 0 then False else vp_in i (haL (CU H K V W) a) ∧ nx n L (.inl (haI (CU H K V W) a i.toNatClampNeg) :: S) (CU H K V W) cu su := by
  subst hi
  refine nz ha ⟨?_, ?_⟩
  · show vp_in (nI k) (haL H a)
    rw [hm]; exact vp_in_nI hk (by omega)
  · rw [CU_aIo hs, nI_clamp (by omega)]; exact b
theorem cst (hK : KI K) (ha : a ≠ 0) (hs : K a = s) (h4 : s < 400) (hm : haL H a = m) (m31 : m < 1000) (k : Nat) (hi : i = nI k) (hk : k < m) (b : nx n L S (CU H K V (va_up W s (upd (W s) k v))) cu su) : if a = 0 then False else vp_in i (haL (CU H K V W) a) ∧ nx n L S (waI (CU H K V W) a (upd (haI (CU H K V W) a) i.toNatClampNeg v)) cu su := by
  subst hi
  refine nz ha ⟨?_, ?_⟩
  · show vp_in (nI k) (haL H a)
    rw [hm]; exact vp_in_nI hk (by omega)
  · rw [CU_aI hs h4, nI_clamp (by omega), CU_wA hK hs h4]; exact b
end C1
/-- z is the State s -/
def SS (H : hp) (K : Nat → Nat) (z s : Nat) : Prop := (z ≠ 0 ∧ K z = 10 + s ∧ s < 29) ∧ (hfR H 500 z ≠ 0 ∧ K (hfR H 500 z) = 100 + s ∧ haL H (hfR H 500 z) = 8) ∧ (hfR H 501 z ≠ 0 ∧ K (hfR H 501 z) = 200 + s ∧ haL H (hfR H 501 z) = 4)
/-- p is a plan -/
def PP (H : hp) (K : Nat → Nat) (p : Nat) : Prop := (p ≠ 0 ∧ 400 ≤ K p) ∧ (hfR H 105 p ≠ 0 ∧ 400 ≤ K (hfR H 105 p) ∧ haL H (hfR H 105 p) = 8) ∧ (hfR H 106 p ≠ 0 ∧ 400 ≤ K (hfR H 106 p) ∧ haL H (hfR H 106 p) = 8) ∧ (hfR H 108 p ≠ 0 ∧ 400 ≤ K (hfR H 108 p) ∧ haL H (hfR H 108 p) = 4) ∧ (hfR H 109 p ≠ 0 ∧ 400 ≤ K (hfR H 109 p) ∧ haL H (hfR H 109 p) = 4)
abbrev pI (H : hp) (p f : Nat) : Int32 := hfI H f p
abbrev pA (H : hp) (p f : Nat) : Nat → Int32 := haI H (hfR H f p)
def Pn (H : hp) (p n cm : Nat) : Prop := (pI H p 102 = nI n ∧ n ≤ 8) ∧ (pI H p 104 = nI cm ∧ cm ≤ 4)
section C2
variable {d z s p n cm : Nat} {H : hp} {K : Nat → Nat} {V W : Nat → Nat → Int32} {kk : Rt}
theorem c_isBelow {v : Int32} {h : hp} {e : Int32} {m : Nat} (he : e = nI m) (hm : m < 1000) (ht : inB v m → kk (some (.inl 1)) h) (hf : ¬ inB v m → kk (some (.inl 0)) h) : CL d mX6_isBelow 0 0 [.inl v, .inl e] h kk := by
  subst he
  refine mw T_X6_isBelow (fun Wm go => go cut0 30 0 _ _ _ _ _ ?_)
  have e : (nI m).toInt = m := nI_toInt (by omega)
  refine And.intro (fun c => And.intro (Or.inl rfl) (hf (fun q => z0.mpr q.1 c))) (fun c => And.intro (fun c2 => And.intro (Or.inl rfl) (hf (fun q => ?_))) (fun c2 => And.intro (Or.inr rfl) (ht ⟨z0.mp c, ?_⟩)))
  · have c2 : nI m ≤ v := c2
    rw [Int32.le_iff_toInt_le, e] at c2
    have := q.2
    omega
  · have c2 : ¬ nI m ≤ v := c2
    rw [Int32.le_iff_toInt_le, e] at c2
    omega
theorem c_isLines {v : Int32} {h : hp} (ht : inR v 1 30 → kk (some (.inl 1)) h) (hf : ¬ inR v 1 30 → kk (some (.inl 0)) h) : CL d mX6_isLines 0 0 [.inl v] h kk :=
  mw T_X6_isLines (fun Wm go => go cut0 30 0 _ _ _ _ _ (And.intro (fun c1 => And.intro (Or.inl rfl) (hf (fun z => Int32.not_lt.mpr z.1 c1))) (fun c1 => And.intro (fun c2 => And.intro (Or.inl rfl) (hf (fun z => Int32.not_lt.mpr z.2 c2))) (fun c2 => And.intro (Or.inr rfl) (ht ⟨Int32.not_lt.mp c1, Int32.not_lt.mp c2⟩)))))
/-- the State t becomes what the State s is -/
abbrev beV (V : Nat → Nat → Int32) (t s : Nat) : Nat → Nat → Int32 := up2 (up2 V 502 (10 + t) (V 502 (10 + s))) 503 (10 + t) (V 503 (10 + s))
abbrev beW (W : Nat → Nat → Int32) (t s : Nat) : Nat → Nat → Int32 := va_up (va_up W (100 + t) (va_cpy (W (100 + s)) (W (100 + t)) 0 0 8)) (200 + t) (va_cpy (W (200 + s)) (W (200 + t)) 0 0 4)
theorem CU_cpy {a b sa sb m : Nat} (hK : KI K) (h1 : K a = sa) (h2 : K b = sb) (l1 : sa < 400) (l2 : sb < 400) : waI (CU H K V W) b (va_cpy (haI (CU H K V W) a) (haI (CU H K V W) b) 0 0 m) = CU H K V (va_up W sb (va_cpy (W sa) (W sb) 0 0 m)) := by
  rw [CU_aI h1 l1, CU_aI h2 l2, CU_wA hK h2 l2]
theorem c_become {y t y' z' : Nat} (hK : KI K) (ey : y' = y) (h1 : SS H K y t) (ez : z' = z) (h2 : SS H K z s) (hk : kk none (CU H K (beV V t s) (beW W t s))) : CL (d + 1) mX5_become 0 0 [.inr (.inr (6, y')), .inr (.inr (6, z'))] (CU H K V W) kk := by
  subst ey
  subst ez
  obtain ⟨y, rfl⟩ : ∃ q, y' = q + 1 := ⟨y' - 1, by have := h1.1.1; omega⟩
  obtain ⟨z, rfl⟩ : ∃ q, z' = q + 1 := ⟨z' - 1, by have := h2.1.1; omega⟩
  obtain ⟨⟨a1, a2, a3⟩, ⟨a4, a5, a6⟩, ⟨a7, a8, a9⟩⟩ := h1
  obtain ⟨⟨b1, b2, b3⟩, ⟨b4, b5, b6⟩, ⟨b7, b8, b9⟩⟩ := h2
  refine mw T_X5_become (fun Wm go => go (cut1 15) 60 0 _ _ _ _ _ ?_)
  refine nz b4 (nz a4 (And.intro ⟨by decide, by decide, by decide, ?_, ?_⟩ ?_))
  · show 0 + 8 ≤ haL H (hfR H 500 (z + 1))
    rw [b6]; decide
  · show 0 + 8 ≤ haL H (hfR H 500 (y + 1))
    rw [a6]; decide
  refine wmc (Wm := Wm) ?_ rfl (CU_cpy (m := 8) hK b5 a5 (by omega) (by omega))
  refine go (cut1 29) 60 15 _ _ _ _ _ ?_
  refine nz b7 (nz a7 (And.intro ⟨by decide, by decide, by decide, ?_, ?_⟩ ?_))
  · show 0 + 4 ≤ haL H (hfR H 501 (z + 1))
    rw [b9]; decide
  · show 0 + 4 ≤ haL H (hfR H 501 (y + 1))
    rw [a9]; decide
  refine wmc (Wm := Wm) ?_ rfl (CU_cpy (m := 4) hK b8 a8 (by omega) (by omega))
  refine go (cut1 37) 60 29 _ _ _ _ _ ?_
  refine wmc (Wm := Wm) ?_ rfl (CU_wI hK a2 (by omega))
  refine go cut0 60 37 _ _ _ _ _ ?_
  refine kkc hk rfl ?_
  rw [CU_wI hK a2 (by omega), CU_fI b2 (by omega), CU_fI b2 (by omega)]
  have e1 : va_up W (100 + t) (va_cpy (W (100 + s)) (W (100 + t)) 0 0 8) (200 + s) = W (200 + s) := va_up_ne _ _ (by omega)
  have e2 : va_up W (100 + t) (va_cpy (W (100 + s)) (W (100 + t)) 0 0 8) (200 + t) = W (200 + t) := va_up_ne _ _ (by omega)
  rw [e1, e2]
  have e3 : up2 V 502 (10 + t) (V 502 (10 + s)) 503 (10 + s) = V 503 (10 + s) := by
    unfold up2
    rw [if_neg (by decide)]
  rw [e3]
end C2
