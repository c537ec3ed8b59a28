/-! ===== the class: States and Plans ===== -/
section C3
variable {d z s p n cm : Nat} {H : hp} {K : Nat → Nat} {V W : Nat → Nat → Int32} {kk : Rt}
theorem c_useUp {z' : Nat} {b : Nat} {u : Int32} (hK : KI K) (ez : z' = z) (h1 : SS H K z s) (hb : b < 8) (hk : kk none (CU H K (up2 V 502 (10 + s) (V 502 (10 + s) + u)) (va_up W (100 + s) (upd (W (100 + s)) b (W (100 + s) b - u))))) : CL d mX5_useUp 0 0 [.inr (.inr (6, z')), .inl (nI b), .inl u] (CU H K V W) kk := by
  subst ez
  obtain ⟨z, rfl⟩ : ∃ q, z' = q + 1 := ⟨z' - 1, by have := h1.1.1; omega⟩
  obtain ⟨⟨a1, a2, a3⟩, ⟨a4, a5, a6⟩, -⟩ := h1
  refine mw T_X5_useUp (fun Wm go => go cut0 60 0 _ _ _ _ _ ?_)
  refine cld a4 a5 (by omega) a6 (by omega) b rfl hb ?_
  refine cst hK a4 a5 (by omega) a6 (by omega) b rfl hb ?_
  refine kkc hk rfl ?_
  rw [CU_wI hK a2 (by omega), CU_fI a2 (by omega)]
theorem c_withChalk {z' : Nat} (ez : z' = z) (h1 : SS H K z s) (hk : kk (some (.inl (mkS (posB (W (100 + s))) 8))) (CU H K V W)) : CL d mX5_withChalk 0 0 [.inr (.inr (6, z'))] (CU H K V W) kk := by
  subst ez
  obtain ⟨z, rfl⟩ : ∃ q, z' = q + 1 := ⟨z' - 1, by have := h1.1.1; omega⟩
  obtain ⟨⟨a1, a2, a3⟩, ⟨a4, a5, a6⟩, -⟩ := h1
  refine mw T_X5_withChalk (fun Wm go => go (cut1 4) 60 0 _ _ _ _ _ ?_)
  refine upto (n := 8) (P := fun k => Wm 4 [some (.inr (.inr (6, z + 1))), some (.inl (mkS (posB (W (100 + s))) k)), some (.inl (nI k))] [] (CU H K V W) 0 0) (fun k hkn ih => ?_) 0 (Nat.zero_le _)
  refine go (cut1 4) 60 4 _ _ _ _ _ ?_
  refine icg rfl (show (8 : Int32) = nI 8 from rfl) (by omega) (by omega) (fun c => ?_) (fun c => ?_)
  · have e : k = 8 := by omega
    subst e
    exact hk
  · refine cld a4 a5 (by omega) a6 (by omega) k rfl c ?_
    refine And.intro (fun c2 => ?_) (fun c2 => ?_)
    · have e := ih c
      rw [mkS_0 (posB_f c2), or_z, ← nI_1] at e
      exact e
    · have e := ih c
      rw [mkS_1 (posB_t c2), ← nI_1] at e
      exact e
theorem c_allChalk {z' : Nat} (ez : z' = z) (h1 : SS H K z s) (hk : kk (some (.inl (smI (W (100 + s)) 8))) (CU H K V W)) : CL d mX5_allChalk 0 0 [.inr (.inr (6, z'))] (CU H K V W) kk := by
  subst ez
  obtain ⟨z, rfl⟩ : ∃ q, z' = q + 1 := ⟨z' - 1, by have := h1.1.1; omega⟩
  obtain ⟨⟨a1, a2, a3⟩, ⟨a4, a5, a6⟩, -⟩ := h1
  refine mw T_X5_allChalk (fun Wm go => go (cut1 4) 60 0 _ _ _ _ _ ?_)
  refine upto (n := 8) (P := fun k => Wm 4 [some (.inr (.inr (6, z + 1))), some (.inl (smI (W (100 + s)) k)), some (.inl (nI k))] [] (CU H K V W) 0 0) (fun k hkn ih => ?_) 0 (Nat.zero_le _)
  refine go (cut1 4) 60 4 _ _ _ _ _ ?_
  refine icg rfl (show (8 : Int32) = nI 8 from rfl) (by omega) (by omega) (fun c => ?_) (fun c => ?_)
  · have e : k = 8 := by omega
    subst e
    exact hk
  · refine cld a4 a5 (by omega) a6 (by omega) k rfl c ?_
    have e := ih c
    rw [← nI_1] at e
    exact e
theorem c_allLines {z' : Nat} (ez : z' = z) (h1 : SS H K z s) (hk : kk (some (.inl (smI (W (200 + s)) 4))) (CU H K V W)) : CL d mX5_allLines 0 0 [.inr (.inr (6, z'))] (CU H K V W) kk := by
  subst ez
  obtain ⟨z, rfl⟩ : ∃ q, z' = q + 1 := ⟨z' - 1, by have := h1.1.1; omega⟩
  obtain ⟨⟨a1, a2, a3⟩, -, ⟨a4, a5, a6⟩⟩ := h1
  refine mw T_X5_allLines (fun Wm go => go (cut1 4) 60 0 _ _ _ _ _ ?_)
  refine upto (n := 4) (P := fun k => Wm 4 [some (.inr (.inr (6, z + 1))), some (.inl (smI (W (200 + s)) k)), some (.inl (nI k))] [] (CU H K V W) 0 0) (fun k hkn ih => ?_) 0 (Nat.zero_le _)
  refine go (cut1 4) 60 4 _ _ _ _ _ ?_
  refine icg rfl (show (4 : Int32) = nI 4 from rfl) (by omega) (by omega) (fun c => ?_) (fun c => ?_)
  · have e : k = 4 := by omega
    subst e
    exact hk
  · refine cld a4 a5 (by omega) a6 (by omega) k rfl c ?_
    have e := ih c
    rw [← nI_1] at e
    exact e
theorem c_hasBlock {p' : Nat} {v : Int32} (ep : p' = p) (hP : PP H K p) (hn : Pn H p n cm) (ht : inB v n → kk (some (.inl 1)) (CU H K V W)) (hf : ¬ inB v n → kk (some (.inl 0)) (CU H K V W)) : CL (d + 1) mX1_hasBlock 0 0 [.inr (.inr (2, p')), .inl v] (CU H K V W) kk := by
  subst ep
  obtain ⟨p, rfl⟩ : ∃ q, p' = q + 1 := ⟨p' - 1, by have := hP.1.1; omega⟩
  refine mw T_X1_hasBlock (fun Wm go => go cut0 60 0 _ _ _ _ _ ?_)
  have := hn.1.2
  exact c_isBelow ((CU_fIo hP.1.2).trans hn.1.1) (by omega) (fun c => And.intro (Or.inr rfl) (ht c)) (fun c => And.intro (Or.inl rfl) (hf c))
theorem c_hasClerk {p' : Nat} {v : Int32} (ep : p' = p) (hP : PP H K p) (hn : Pn H p n cm) (ht : inB v cm → kk (some (.inl 1)) (CU H K V W)) (hf : ¬ inB v cm → kk (some (.inl 0)) (CU H K V W)) : CL (d + 1) mX1_hasClerk 0 0 [.inr (.inr (2, p')), .inl v] (CU H K V W) kk := by
  subst ep
  obtain ⟨p, rfl⟩ : ∃ q, p' = q + 1 := ⟨p' - 1, by have := hP.1.1; omega⟩
  refine mw T_X1_hasClerk (fun Wm go => go cut0 60 0 _ _ _ _ _ ?_)
  have := hn.2.2
  exact c_isBelow ((CU_fIo hP.1.2).trans hn.2.1) (by omega) (fun c => And.intro (Or.inr rfl) (ht c)) (fun c => And.intro (Or.inl rfl) (hf c))
theorem c_areBlocks {p' : Nat} {v : Int32} (ep : p' = p) (hP : PP H K p) (hn : Pn H p n cm) (ht : inB v (2 ^ n) → kk (some (.inl 1)) (CU H K V W)) (hf : ¬ inB v (2 ^ n) → kk (some (.inl 0)) (CU H K V W)) : CL (d + 1) mX1_areBlocks 0 0 [.inr (.inr (2, p')), .inl v] (CU H K V W) kk := by
  subst ep
  obtain ⟨p, rfl⟩ : ∃ q, p' = q + 1 := ⟨p' - 1, by have := hP.1.1; omega⟩
  refine mw T_X1_areBlocks (fun Wm go => go cut0 60 0 _ _ _ _ _ ?_)
  have := p256 hn.1.2
  refine c_isBelow (m := 2 ^ n) ?_ (by omega) (fun c => And.intro (Or.inr rfl) (ht c)) (fun c => And.intro (Or.inl rfl) (hf c))
  rw [(CU_fIo hP.1.2).trans hn.1.1]
  exact shl_n n hn.1.2
theorem c_above {p' : Nat} {v : Int32} (ep : p' = p) (hP : PP H K p) (hn : Pn H p n cm) (hk : kk (some (.inl (mkS (fun k => decide (hasB (pA H p 106 k) v)) n))) (CU H K V W)) : CL d mX1_above 0 0 [.inr (.inr (2, p')), .inl v] (CU H K V W) kk := by
  subst ep
  obtain ⟨p, rfl⟩ : ∃ q, p' = q + 1 := ⟨p' - 1, by have := hP.1.1; omega⟩
  obtain ⟨⟨hn1, hn8⟩, -⟩ := hn
  obtain ⟨a1, -, ⟨a4, a5, a6⟩, -⟩ := hP
  refine mw T_X1_above (fun Wm go => go (cut1 4) 60 0 _ _ _ _ _ ?_)
  refine upto (n := n) (P := fun k => Wm 4 [some (.inr (.inr (2, p + 1))), some (.inl v), some (.inl (mkS (fun k => decide (hasB (pA H (p + 1) 106 k) v)) k)), some (.inl (nI k))] [] (CU H K V W) 0 0) (fun k hkn ih => ?_) 0 (Nat.zero_le _)
  refine go (cut1 4) 60 4 _ _ _ _ _ ?_
  refine icg rfl ((CU_fIo a1.2).trans hn1) (by omega) (by omega) (fun c => ?_) (fun c => ?_)
  · have e : k = n := by omega
    subst e
    exact hk
  · refine cldo a4 a5 a6 (by omega) k rfl (by omega) ?_
    refine And.intro (fun c2 => ?_) (fun c2 => ?_)
    · have e := ih c
      rw [mkS_1 (decide_eq_true c2), ← nI_1] at e
      exact e
    · have e := ih c
      rw [mkS_0 (fun z => c2 (of_decide_eq_true z)), or_z, ← nI_1] at e
      exact e
theorem c_standing {p' : Nat} {v : Int32} (ep : p' = p) (hP : PP H K p) (hn : Pn H p n cm) (hk : kk (some (.inl (stP (pA H p 106) (fun k => decide (hasB v (nI k))) n))) (CU H K V W)) : CL d mX1_standing 0 0 [.inr (.inr (2, p')), .inl v] (CU H K V W) kk := by
  subst ep
  obtain ⟨p, rfl⟩ : ∃ q, p' = q + 1 := ⟨p' - 1, by have := hP.1.1; omega⟩
  obtain ⟨⟨hn1, hn8⟩, -⟩ := hn
  obtain ⟨a1, -, ⟨a4, a5, a6⟩, -⟩ := hP
  refine mw3 T_X1_standing (fun Wm go wk => go (cut1 4) 60 0 _ _ _ _ _ ?_)
  refine upto (n := n) (P := fun k => Wm 4 [some (.inr (.inr (2, p + 1))), some (.inl v), some (.inl (stP (pA H (p + 1) 106) (fun k => decide (hasB v (nI k))) k)), some (.inl (nI k)), none] [] (CU H K V W) 0 0) (fun k hkn ih => ?_) 0 (Nat.zero_le _)
  refine go (cut2 4 37) 60 4 _ _ _ _ _ ?_
  refine icg rfl ((CU_fIo a1.2).trans hn1) (by omega) (by omega) (fun c => ?_) (fun c => ?_)
  · have e : k = n := by omega
    subst e
    exact hk
  · have ih := ih c
    have yes : (pA H (p + 1) 106 k = 0 ∨ ¬ pA H (p + 1) 106 k &&& stP (pA H (p + 1) 106) (fun k => decide (hasB v (nI k))) k = 0) → Wm 37 [some (.inr (.inr (2, p + 1))), some (.inl v), some (.inl (stP (pA H (p + 1) 106) (fun k => decide (hasB v (nI k))) k)), some (.inl (nI k)), none] [.inl 1] (CU H K V W) 0 0 := by
      intro hb
      refine go (cut1 4) 60 37 _ _ _ _ _ ?_
      refine br1 (And.intro (fun c2 => ?_) (fun c2 => ?_))
      · rw [stP_1 ⟨decide_eq_true c2, hb⟩, ← nI_1] at ih
        exact wk _ _ _ _ _ _ _ ih (by repeat (first | exact ln | refine l0 ?_ | refine l1 rfl ?_))
      · rw [stP_0 (fun z => c2 (of_decide_eq_true z.1)), or_z, ← nI_1] at ih
        exact wk _ _ _ _ _ _ _ ih (by repeat (first | exact ln | refine l0 ?_ | refine l1 rfl ?_))
    refine cldo a4 a5 a6 (by omega) k rfl (by omega) (And.intro (fun c2 => yes (Or.inl c2)) (fun c2 => ?_))
    refine cldo a4 a5 a6 (by omega) k rfl (by omega) (And.intro (fun c3 => ?_) (fun c3 => yes (Or.inr c3)))
    refine go (cut1 4) 60 37 _ _ _ _ _ (br0 ?_)
    have c2 : ¬ pA H (p + 1) 106 k = 0 := c2
    have c3 : pA H (p + 1) 106 k &&& stP (pA H (p + 1) 106) (fun k => decide (hasB v (nI k))) k = 0 := c3
    rw [stP_0 (fun z => z.2.elim c2 (fun q => q c3)), or_z, ← nI_1] at ih
    exact wk _ _ _ _ _ _ _ ih (by repeat (first | exact ln | refine l0 ?_ | refine l1 rfl ?_))
theorem c_chalkByKind {h : hp} {kind hand lines day : Int32} (hk : kk (some (.inl (tkB kind hand lines day))) h) : CL (d + 1) mX6_chalkByKind 0 0 [.inl kind, .inl hand, .inl lines, .inl day] h kk := by
  have em : (if (9 : Int32) < day then 9 else day) = leastI day 9 := by
    unfold leastI
    by_cases c : day < 9
    · rw [if_pos c, if_neg (fun z => Int32.lt_irrefl (Int32.lt_trans c z))]
    · rw [if_neg c]
      by_cases c2 : 9 < day
      · rw [if_pos c2]
      · rw [if_neg c2]
        exact Int32.le_antisymm (Int32.not_lt.mp c2) (Int32.not_lt.mp c)
  refine mw T_X6_chalkByKind (fun Wm go => go cut0 60 0 _ _ _ _ _ ?_)
  refine And.intro (fun c1 => kki hk (by unfold tkB; rw [if_pos c1]) rfl) (fun c1 => And.intro (fun c2 => ?_) (fun c2 => And.intro (fun c3 => kki hk (by unfold tkB; rw [if_neg c1, if_neg c2, if_pos c3]) rfl) (fun c3 => And.intro (fun c4 => kki hk (by unfold tkB; rw [if_neg c1, if_neg c2, if_neg c3, if_pos c4, ← em]) rfl) (fun c4 => kki hk (by unfold tkB; rw [if_neg c1, if_neg c2, if_neg c3, if_neg c4, ← em]) rfl))))
  exact And.intro (by decide) (kki hk (by unfold tkB; rw [if_neg c1, if_pos c2]) rfl)
theorem c_chalkFor {p' : Nat} {c : Nat} {lines day : Int32} (ep : p' = p) (hP : PP H K p) (hc : c < 4) (hk : kk (some (.inl (tkB (pA H p 108 c) (pA H p 109 c) lines day))) (CU H K V W)) : CL (d + 2) mX1_chalkFor 0 0 [.inr (.inr (2, p')), .inl (nI c), .inl lines, .inl day] (CU H K V W) kk := by
  subst ep
  obtain ⟨p, rfl⟩ : ∃ q, p' = q + 1 := ⟨p' - 1, by have := hP.1.1; omega⟩
  obtain ⟨a1, -, -, ⟨a4, a5, a6⟩, ⟨b4, b5, b6⟩⟩ := hP
  refine mw T_X1_chalkFor (fun Wm go => go cut0 60 0 _ _ _ _ _ ?_)
  refine cldo a4 a5 a6 (by omega) c rfl hc ?_
  refine cldo b4 b5 b6 (by omega) c rfl hc ?_
  exact c_chalkByKind hk
/-- what stands, of the State s -/
abbrev stC (H : hp) (p n : Nat) (W : Nat → Nat → Int32) (s : Nat) : Int32 := stP (pA H p 106) (posB (W (100 + s))) n
theorem stC_e {on c : Nat → Int32} {n : Nat} (hn : n ≤ 8) : stP on (fun k => decide (hasB (mkS (posB c) 8) (nI k))) n = stP on (posB c) n := by
  refine stP_congr (fun k hk => ⟨rfl, ?_⟩)
  have := mkS_bit (q := posB c) (k := k) (by omega) (n := 8) (by omega)
  rw [Bool.eq_iff_iff, decide_eq_true_iff, this]
  exact ⟨fun z => z.2, fun z => ⟨by omega, z⟩⟩
theorem rainF_n {a on : Nat → Int32} {rain : Int32} {n k : Nat} (h : ¬ wetB a on n k) : rainF a on rain n (k + 1) = rainF a on rain n k := by
  funext j
  unfold rainF
  by_cases c : j < k ∧ wetB a on n j
  · rw [if_pos c, if_pos ⟨by omega, c.2⟩]
  · rw [if_neg c, if_neg]
    intro z
    by_cases e : j = k
    · subst e; exact h z.2
    · exact c ⟨by omega, z.2⟩
abbrev maxI (a b : Int32) : Int32 := if a < b then b else a
theorem c_letRain {p' : Nat} {z' : Nat} (hK : KI K) (ep : p' = p) (hP : PP H K p) (hn : Pn H p n cm) (ez : z' = z) (h1 : SS H K z s) (hr : ∀ j, j < n → maxI 0 (W (100 + s) j - pI H p 100) = if pI H p 100 < W (100 + s) j then W (100 + s) j - pI H p 100 else 0) (hk : kk none (CU H K V (va_up W (100 + s) (rainF (W (100 + s)) (pA H p 106) (pI H p 100) n n)))) : CL (d + 2) mX1_letRain 0 0 [.inr (.inr (2, p')), .inr (.inr (6, z'))] (CU H K V W) kk := by
  subst ez
  obtain ⟨z, rfl⟩ : ∃ q, z' = q + 1 := ⟨z' - 1, by have := h1.1.1; omega⟩
  subst ep
  obtain ⟨p, rfl⟩ : ∃ q, p' = q + 1 := ⟨p' - 1, by have := hP.1.1; omega⟩
  have hP' := hP
  have hn' := hn
  have h1' := h1
  obtain ⟨⟨hn1, hn8⟩, -⟩ := hn
  obtain ⟨a1, -⟩ := hP
  obtain ⟨⟨b1, b2, b3⟩, ⟨b4, b5, b6⟩, -⟩ := h1
  refine mw3 T_X1_letRain (fun Wm go wk => go (cut1 11) 60 0 _ _ _ _ _ ?_)
  refine c_withChalk rfl h1' ?_
  refine c_standing rfl hP' hn' ?_
  rw [stC_e hn8]
  have start := upto (n := n) (P := fun k => Wm 11 [some (.inr (.inr (2, p + 1))), some (.inr (.inr (6, z + 1))), some (.inl (stC H (p + 1) n W s)), some (.inl (nI k))] [] (CU H K V (va_up W (100 + s) (rainF (W (100 + s)) (pA H (p + 1) 106) (pI H (p + 1) 100) n k))) 0 0) (fun k hkn ih => ?_) 0 (Nat.zero_le _)
  · rw [rainF_0, up_id] at start
    exact start
  refine go (cut1 11) 60 11 _ _ _ _ _ ?_
  refine icg rfl ((CU_fIo a1.2).trans hn1) (by omega) (by omega) (fun c => ?_) (fun c => ?_)
  · have e : k = n := by omega
    subst e
    exact hk
  · have ih := ih c
    rw [← nI_1] at ih
    refine And.intro (fun c3 => ?_) (fun c3 => ?_)
    · refine c_above rfl hP' hn' ?_
      refine And.intro (fun c4 => ?_) (fun c4 => ?_)
      · have cc : wetB (W (100 + s)) (pA H (p + 1) 106) n k := ⟨c3, c4⟩
        refine cld b4 b5 (by omega) b6 (by omega) k rfl (by omega) ?_
        refine cst hK b4 b5 (by omega) b6 (by omega) k rfl (by omega) ?_
        rw [rainF_s, if_pos cc, ← hr k c, ← bx_uu W (100 + s) (rainF (W (100 + s)) (pA H (p + 1) 106) (pI H (p + 1) 100) n k)] at ih
        refine wmc (Wm := Wm) ih rfl ?_
        rw [va_up_self]
        dsimp only
        rw [rainF_at, CU_fIo a1.2]
      · rw [rainF_n (fun z => c4 z.2)] at ih
        exact ih
    · rw [rainF_n (fun z => c3 z.1)] at ih
      exact ih
abbrev usr (a b : Int32) : Int32 := (a.toUInt32 >>> (b.toUInt32 &&& Int32.toUInt32 31)).toInt32
def bc1 (v : Int32) : Int32 := v - (usr v 1 &&& 1431655765)
def bc2 (v : Int32) : Int32 := (v &&& 858993459) + (usr v 2 &&& 858993459)
def bc3 (v : Int32) : Int32 := (v + usr v 4) &&& 252645135
def bc4 (v : Int32) : Int32 := v + usr v 8
def bc5 (v : Int32) : Int32 := v + usr v 16
theorem bc_all : ∀ m, m < 256 → bc5 (bc4 (bc3 (bc2 (bc1 (nI m))))) &&& 63 = nI (pc8 m) := by decide +kernel
theorem c_bitCount {h : hp} {v : Int32} (hv : ∃ m, m < 256 ∧ v = nI m) (hk : kk (some (.inl (bitsI v))) h) : CL d mJ6_bitCount_0f7a4 0 0 [.inl v] h kk := by
  have e : bc5 (bc4 (bc3 (bc2 (bc1 v)))) &&& 63 = bitsI v := by
    obtain ⟨m, hm, rfl⟩ := hv
    unfold bitsI
    rw [nI_clamp (by omega)]
    exact bc_all m hm
  rw [← e] at hk
  refine mw T_J6_bitCount_0f7a4 (fun Wm go => go (cut1 10) 80 0 _ _ _ _ _ ?_)
  show Wm 10 [some (.inl (bc1 v))] [] h 0 0
  generalize bc1 v = v1 at hk
  refine go (cut1 24) 80 10 _ _ _ _ _ ?_
  show Wm 24 [some (.inl (bc2 v1))] [] h 0 0
  generalize bc2 v1 = v2 at hk
  refine go (cut1 34) 80 24 _ _ _ _ _ ?_
  show Wm 34 [some (.inl (bc3 v2))] [] h 0 0
  generalize bc3 v2 = v3 at hk
  refine go (cut1 41) 80 34 _ _ _ _ _ ?_
  show Wm 41 [some (.inl (bc4 v3))] [] h 0 0
  generalize bc4 v3 = v4 at hk
  refine go (cut1 48) 80 41 _ _ _ _ _ ?_
  show Wm 48 [some (.inl (bc5 v4))] [] h 0 0
  generalize bc5 v4 = v5 at hk
  exact go cut0 80 48 _ _ _ _ _ hk
/-- a State begins anew: the plan's chalk -/
theorem c_begin {p' : Nat} {z' : Nat} (hK : KI K) (ep : p' = p) (hP : PP H K p) (ez : z' = z) (h1 : SS H K z s) (hk : ∀ V' W', (∀ f t, t ≠ 10 + s → V' f t = V f t) → V' 502 (10 + s) = 0 → V' 503 (10 + s) = 0 → (∀ t, t ≠ 100 + s → t ≠ 200 + s → W' t = W t) → (∀ j, j < 8 → W' (100 + s) j = pA H p 105 j) → (∀ j, j < 4 → W' (200 + s) j = 0) → kk none (CU H K V' W')) : CL (d + 1) mX5_begin 0 0 [.inr (.inr (6, z')), .inr (.inr (2, p'))] (CU H K V W) kk := by
  subst ez
  obtain ⟨z, rfl⟩ : ∃ q, z' = q + 1 := ⟨z' - 1, by have := h1.1.1; omega⟩
  subst ep
  obtain ⟨p, rfl⟩ : ∃ q, p' = q + 1 := ⟨p' - 1, by have := hP.1.1; omega⟩
  obtain ⟨⟨a1, a2, a3⟩, ⟨a4, a5, a6⟩, ⟨a7, a8, a9⟩⟩ := h1
  obtain ⟨q1, ⟨b4, b5, b6⟩, -⟩ := hP
  refine mw T_X5_begin (fun Wm go => go (cut1 15) 60 0 _ _ _ _ _ ?_)
  refine nz b4 (nz a4 (And.intro ⟨by decide, by decide, by decide, ?_, ?_⟩ ?_))
  · show 0 + 8 ≤ haL H (hfR H 105 (p + 1))
    rw [b6]; decide
  · show 0 + 8 ≤ haL H (hfR H 500 (z + 1))
    rw [a6]; decide
  refine wmc (Wm := Wm) (h' := CU H K V (va_up W (100 + s) (va_cpy (pA H (p + 1) 105) (W (100 + s)) 0 0 8))) ?_ rfl ?_
  rotate_left
  · show waI (CU H K V W) (hfR H 500 (z + 1)) (va_cpy (haI (CU H K V W) (hfR H 105 (p + 1))) (haI (CU H K V W) (hfR H 500 (z + 1))) 0 0 8) = _
    rw [CU_aIo b5, CU_aI a5 (by omega), CU_wA hK a5 (by omega)]
  refine go (cut1 17) 60 15 _ _ _ _ _ ?_
  refine upto (n := 4) (P := fun k => ∀ W', (∀ t, t ≠ 100 + s → t ≠ 200 + s → W' t = W t) → (∀ j, j < 8 → W' (100 + s) j = pA H (p + 1) 105 j) → (∀ j, j < k → W' (200 + s) j = 0) → Wm 17 [some (.inr (.inr (6, z + 1))), some (.inr (.inr (2, p + 1))), some (.inl (nI k))] [] (CU H K V W') 0 0) (fun k hkn ih W' w1 w2 w3 => ?_) 0 (Nat.zero_le _) _ (fun t t1 t2 => va_up_ne _ _ t1) (fun j hj => ?_) (fun j hj => absurd hj (Nat.not_lt_zero j))
  · refine go (cut1 17) 60 17 _ _ _ _ _ ?_
    refine icg rfl (show (4 : Int32) = nI 4 from rfl) (by omega) (by omega) (fun c => ?_) (fun c => ?_)
    · have e : k = 4 := by omega
      subst e
      refine kkc (hk (up2 (up2 V 502 (10 + s) 0) 503 (10 + s) 0) W' ?_ ?_ ?_ w1 w2 w3) rfl ?_
      · intro f t ht
        unfold up2
        by_cases f1 : f = 503
        · rw [if_pos f1, if_neg ht]
          by_cases f2 : f = 502
          · rw [if_pos f2, if_neg ht]
          · rw [if_neg f2]
        · rw [if_neg f1]
          by_cases f2 : f = 502
          · rw [if_pos f2, if_neg ht]
          · rw [if_neg f2]
      · unfold up2
        rw [if_neg (by decide), if_pos rfl, if_pos rfl]
      · unfold up2
        rw [if_pos rfl, if_pos rfl]
      · rw [CU_wI hK a2 (by omega), CU_wI hK a2 (by omega)]
    · refine cst hK a7 a8 (by omega) a9 (by omega) k rfl c ?_
      have e := ih c (va_up W' (200 + s) (upd (W' (200 + s)) k 0)) (fun t t1 t2 => by rw [va_up_ne _ _ t2]; exact w1 t t1 t2) (fun j hj => by rw [va_up_ne _ _ (by omega)]; exact w2 j hj) (fun j hj => ?_)
      · rw [← nI_1] at e
        exact e
      · rw [va_up_self]
        unfold upd
        by_cases q : j = k
        · rw [if_pos q]
        · rw [if_neg q]; exact w3 j (by omega)
  · rw [va_up_self]
    unfold va_cpy
    rw [if_pos (by omega)]
    congr 1
    omega
end C3
