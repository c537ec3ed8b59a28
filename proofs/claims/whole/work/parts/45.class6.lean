/-! ===== the class: more acts and questions ===== -/
def amK (am : Nat) : Nat → Nat
  | 0 => am
  | k + 1 => if amK am k + 1 < 24 then amK am k + 1 else 24
theorem amK_le {am : Nat} (h : am ≤ 24) : ∀ k, amK am k ≤ 24
  | 0 => h
  | k + 1 => by
    show (if amK am k + 1 < 24 then amK am k + 1 else 24) ≤ 24
    split
    · omega
    · exact Nat.le_refl 24
def dyV (V : Nat → Nat → Int32) (at' am : Nat) : Nat → Nat → Nat → Int32
  | 0 => V
  | k + 1 => up2 (baV (dyV V at' am k) ((at' + k) % 24) (amK am k)) 503 10 (dyV V at' am k 503 10 + 1)
def dyW (W : Nat → Nat → Int32) (at' : Nat) : Nat → Nat → Nat → Int32
  | 0 => W
  | k + 1 => beW (dyW W at' k) (1 + (at' + k) % 24) 0
theorem dyV_8 {V : Nat → Nat → Int32} {at' am : Nat} (h : V 607 1 = nI at') (h24 : at' < 24) : ∀ k, dyV V at' am k 607 1 = nI ((at' + k) % 24)
  | 0 => by rw [Nat.add_zero, Nat.mod_eq_of_lt h24]; exact h
  | k + 1 => by
    show nI (((at' + k) % 24 + 1) % 24) = _
    congr 1
    omega
theorem dyV_9 {V : Nat → Nat → Int32} {at' am : Nat} (h : V 608 1 = nI am) : ∀ k, dyV V at' am k 608 1 = nI (amK am k)
  | 0 => h
  | k + 1 => rfl
section C7
variable {d y n cm at' am by' : Nat} {H : hp} {K : Nat → Nat} {V W : Nat → Nat → Int32} {kk : Rt}
theorem c_days {nd : Int32} (hS : CS H K (y + 1)) (hn : Pn H (hfR H 604 (y + 1)) n cm) (ha : V 607 1 = nI at') (ha24 : at' < 24) (hm : V 608 1 = nI am) (hm24 : am ≤ 24)
    (hs : n = 0 → kk (some (.inl eSTATE)) (CU H K V W)) (hb : 0 < n → ¬ inR nd 1 24 → kk (some (.inl eBAD)) (CU H K V W)) (hf : 0 < n → inR nd 1 24 → 999 < V 503 10 + nd → kk (some (.inl eFULL)) (CU H K V W))
    (hg : ∀ k, 0 < n → nd = nI k → 1 ≤ k → k ≤ 24 → ¬ 999 < V 503 10 + nd → kk (some (.inl (dyV V at' am k 503 10))) (CU H K (dyV V at' am k) (dyW W at' k))) : CL (d + 3) mX6_days 0 0 [.inr (.inr (7, y + 1)), .inl nd] (CU H K V W) kk := by
  obtain ⟨⟨a1, a2, a3⟩, -⟩ := hS.now
  refine mw T_X6_days (fun Wm go => go (cut1 42) 80 0 _ _ _ _ _ ?_)
  refine c_hasCastle hS hn (fun q => br1 ?_) (fun q => br0 (hs q))
  refine And.intro (fun q1 => hb q (fun z => Int32.not_lt.mpr z.1 q1)) (fun q1 => And.intro (fun q2 => ?_) (fun q2 => hb q (fun z => q2 z.2)))
  have qr : inR nd 1 24 := ⟨Int32.not_lt.mp q1, q2⟩
  have ed : ∀ V W, hfI (CU H K V W) 503 (hfR (CU H K V W) 605 (y + 1)) = V 503 10 := fun V W => CU_fI a2 (by decide)
  refine nz a1 ?_
  refine And.intro (fun q3 => ?_) (fun q3 => ?_)
  · have q3 : hfI (CU H K V W) 503 (hfR (CU H K V W) 605 (y + 1)) + nd ≤ 999 := q3
    rw [ed] at q3
    obtain ⟨k, k1, k2, rfl⟩ := inR_n (a := 1) (b := 24) (by omega) qr (by omega)
    have hg := hg k q rfl k1 k2 (Int32.not_lt.mpr q3)
    refine go (cut1 44) 80 42 _ _ _ _ _ ?_
    refine upto (n := k) (P := fun j => Wm 44 [some (.inr (.inr (7, y + 1))), some (.inl (nI k)), some (.inl (nI j))] [] (CU H K (dyV V at' am j) (dyW W at' j)) 0 0) (fun j hj ih => ?_) 0 (Nat.zero_le _)
    refine go (cut2 44 66) 80 44 _ _ _ _ _ ?_
    refine icg rfl rfl (by omega) (by omega) (fun c => ?_) (fun c => ?_)
    · have e : j = k := by omega
      subst e
      refine nz a1 ?_
      exact kki hg (ed _ _) rfl
    · have e := ih c
      rw [← nI_1] at e
      refine c_beginAct hS (dyV_8 ha ha24 j) (Nat.mod_lt _ (by omega)) (dyV_9 hm j) (amK_le hm24 j) ?_
      refine nz a1 (nz a1 ?_)
      refine wmc (Wm := Wm) (h' := CU H K (dyV V at' am (j + 1)) (dyW W at' (j + 1))) ?_ rfl ?_
      · exact go (cut1 44) 80 66 _ _ _ _ _ e
      · rw [ed, baV_3]
        exact CU_wI hS.k a2 (by decide)
  · have q3 : ¬ hfI (CU H K V W) 503 (hfR (CU H K V W) 605 (y + 1)) + nd ≤ 999 := q3
    rw [ed] at q3
    exact hf q qr (Int32.not_le.mp q3)
theorem c_hasTaken {z' z : Nat} {v : Int32} (ez : z' = z) (hK : KI K) (hD : RDR H K z) (hby : V 202 9 = nI by') (h120 : by' ≤ 120) (hf : by' = 120 → kk (some (.inl 0)) (CU H K V W)) (hg : by' < 120 → kk (some (.inl 1)) (CU H K (up2 V 202 9 (nI (by' + 1))) (va_up W 4 (upd (W 4) by' v)))) : CL d mX2_hasTaken 0 0 [.inr (.inr (3, z')), .inl v] (CU H K V W) kk := by
  subst ez
  obtain ⟨z, rfl⟩ : ∃ q, z' = q + 1 := ⟨z' - 1, by have := hD.1.1; omega⟩
  obtain ⟨⟨d1, d2⟩, ⟨t1, t2, t3⟩, -⟩ := hD
  have e : ∀ W, hfI (CU H K V W) 202 (z + 1) = nI by' := fun W => (CU_fI d2 (by decide)).trans hby
  refine mw T_X2_hasTaken (fun Wm go => go (cut1 31) 80 0 _ _ _ _ _ ?_)
  refine And.intro (fun q3 => ?_) (fun q3 => ?_)
  · have q3 : hfI (CU H K V W) 202 (z + 1) < nI 120 := q3
    rw [e] at q3
    have q3 : by' < 120 := Nat.not_le.mp (fun z => Int32.not_lt.mpr ((nI_leI (by omega) (by omega)).mpr z) q3)
    refine cst hK t1 t2 (by decide) t3 (by omega) by' (e W) (by omega) ?_
    refine wmc (Wm := Wm) (h' := CU H K (up2 V 202 9 (nI (by' + 1))) (va_up W 4 (upd (W 4) by' v))) ?_ rfl ?_
    · refine go cut0 80 31 _ _ _ _ _ ?_
      exact And.intro (Or.inr rfl) (hg q3)
    · rw [e, CU_wI hK d2 (by decide)]
      exact congrArg (fun u => CU H K (up2 V 202 9 u) (va_up W 4 (upd (W 4) by' v))) (nI_1 by')
  · have q3 : ¬ hfI (CU H K V W) 202 (z + 1) < nI 120 := q3
    rw [e] at q3
    have q3 : 120 ≤ by' := (nI_leI (by omega) (by omega)).mp (Int32.not_lt.mp q3)
    exact And.intro (Or.inl rfl) (hf (by omega))
theorem c_feed {v : Int32} (hS : CS H K (y + 1)) (hby : V 202 9 = nI by') (h120 : by' ≤ 120) (hb : ¬ inR v 0 255 → kk (some (.inl eBAD)) (CU H K V W)) (hf : inR v 0 255 → by' = 120 → kk (some (.inl eFULL)) (CU H K V W))
    (hg : inR v 0 255 → by' < 120 → kk (some (.inl (nI (by' + 1)))) (CU H K (up2 V 202 9 (nI (by' + 1))) (va_up W 4 (upd (W 4) by' v)))) : CL (d + 1) mX6_feed 0 0 [.inr (.inr (7, y + 1)), .inl v] (CU H K V W) kk := by
  have d1 := hS.rdr.1.1
  have d2 := hS.rdr.1.2
  refine mw T_X6_feed (fun Wm go => go cut0 80 0 _ _ _ _ _ ?_)
  refine And.intro (fun q1 => hb (fun z => Int32.not_lt.mpr z.1 q1)) (fun q1 => And.intro (fun q2 => ?_) (fun q2 => hb (fun z => q2 z.2)))
  have qr : inR v 0 255 := ⟨Int32.not_lt.mp q1, q2⟩
  refine nz d1 ?_
  refine c_hasTaken (CU_e _ _ _ _ _ _) hS.k hS.rdr hby h120 (fun q => br0 (hf qr q)) (fun q => br1 ?_)
  refine nz d1 ?_
  exact kki (hg qr q) (CU_fI d2 (by decide)) rfl
theorem c_takes {cl li : Int32} (hS : CS H K (y + 1)) (hn : Pn H (hfR H 604 (y + 1)) n cm) (hb : ¬ (inB cl cm ∧ inR li 1 30) → kk (some (.inl eBAD)) (CU H K V W)) (hg : ∀ c, c < cm → cl = nI c → inR li 1 30 → kk (some (.inl (tkC H (hfR H 604 (y + 1)) V c li))) (CU H K V W)) : CL (d + 3) mX6_takes 0 0 [.inr (.inr (7, y + 1)), .inl cl, .inl li] (CU H K V W) kk := by
  have c4 := hn.2.2
  obtain ⟨⟨a1, a2, a3⟩, -⟩ := hS.now
  refine mw T_X6_takes (fun Wm go => go cut0 80 0 _ _ _ _ _ ?_)
  refine nz hS.pl.1.1 ?_
  refine c_hasClerk (CU_e _ _ _ _ _ _) hS.pl hn (fun q1 => br1 ?_) (fun q1 => br0 (hb (fun z => q1 z.1)))
  refine c_isLines (fun q2 => br1 ?_) (fun q2 => br0 (hb (fun z => q2 z.2)))
  obtain ⟨c, hc, rfl⟩ := inB_of q1 (by omega)
  refine nz a1 (nz hS.pl.1.1 ?_)
  refine c_chalkFor (CU_e _ _ _ _ _ _) hS.pl (by omega) ?_
  refine kki (hg c hc rfl q2) ?_ rfl
  show tkB _ _ _ (hfI (CU H K V W) 503 (hfR (CU H K V W) 605 (y + 1))) = _
  rw [show hfI (CU H K V W) 503 (hfR (CU H K V W) 605 (y + 1)) = V 503 10 from CU_fI a2 (by decide)]
theorem c_kind {cl : Int32} (hS : CS H K (y + 1)) (hn : Pn H (hfR H 604 (y + 1)) n cm) (hb : ¬ inB cl cm → kk (some (.inl eBAD)) (CU H K V W)) (hg : ∀ c, c < cm → cl = nI c → kk (some (.inl (pA H (hfR H 604 (y + 1)) 108 c))) (CU H K V W)) : CL (d + 3) mX6_kind 0 0 [.inr (.inr (7, y + 1)), .inl cl] (CU H K V W) kk := by
  have c4 := hn.2.2
  obtain ⟨-, -, -, ⟨b4, b5, b6⟩, -⟩ := hS.pl
  refine mw T_X6_kind (fun Wm go => go cut0 80 0 _ _ _ _ _ ?_)
  refine nz hS.pl.1.1 ?_
  refine c_hasClerk (CU_e _ _ _ _ _ _) hS.pl hn (fun q1 => br1 ?_) (fun q1 => br0 (hb q1))
  obtain ⟨c, hc, rfl⟩ := inB_of q1 (by omega)
  refine nz hS.pl.1.1 ?_
  exact cldo b4 b5 b6 (by omega) c rfl (by omega) (hg c hc rfl)
theorem c_clerk {cl wh : Int32} (hS : CS H K (y + 1)) (hn : Pn H (hfR H 604 (y + 1)) n cm) (hb : ¬ (inB cl cm ∧ (wh = 0 ∨ wh = 1)) → kk (some (.inl eBAD)) (CU H K V W)) (hg : ∀ c, c < cm → cl = nI c → (wh = 0 ∨ wh = 1) → kk (some (.inl (if wh = 0 then pA H (hfR H 604 (y + 1)) 109 c else W 200 c))) (CU H K V W)) : CL (d + 3) mX6_clerk 0 0 [.inr (.inr (7, y + 1)), .inl cl, .inl wh] (CU H K V W) kk := by
  have c4 := hn.2.2
  obtain ⟨-, -, -, -, ⟨b4, b5, b6⟩⟩ := hS.pl
  obtain ⟨⟨a1, a2, a3⟩, -, ⟨a7, a8, a9⟩⟩ := hS.now
  refine mw T_X6_clerk (fun Wm go => go cut0 80 0 _ _ _ _ _ ?_)
  refine nz hS.pl.1.1 ?_
  refine c_hasClerk (CU_e _ _ _ _ _ _) hS.pl hn (fun q1 => br1 ?_) (fun q1 => br0 (hb (fun z => q1 z.1)))
  obtain ⟨c, hc, rfl⟩ := inB_of q1 (by omega)
  refine And.intro (fun w0 => ?_) (fun w0 => And.intro (fun w1 => ?_) (fun w1 => hb (fun z => z.2.elim w0 w1)))
  · refine nz hS.pl.1.1 ?_
    have k := hg c hc rfl (Or.inl w0)
    rw [if_pos w0] at k
    exact cldo b4 b5 b6 (by omega) c rfl (by omega) k
  · refine nz a1 ?_
    have k := hg c hc rfl (Or.inr w1)
    rw [if_neg w0] at k
    exact cld a7 a8 (by decide) a9 (by omega) c rfl (by omega) k
theorem c_block {bl wh : Int32} (hS : CS H K (y + 1)) (hn : Pn H (hfR H 604 (y + 1)) n cm) (hb : ¬ (inB bl n ∧ (wh = 0 ∨ wh = 1 ∨ wh = 2 ∨ wh = 3)) → kk (some (.inl eBAD)) (CU H K V W)) (hg : ∀ b, b < n → bl = nI b → (wh = 0 ∨ wh = 1 ∨ wh = 2 ∨ wh = 3) → kk (some (.inl (if wh = 0 then W 100 b else if wh = 1 then (stC H (hfR H 604 (y + 1)) n W 0 >>> (nI b &&& 31)) &&& 1 else if wh = 2 then pA H (hfR H 604 (y + 1)) 106 b else mkS (fun k => decide (hasB (pA H (hfR H 604 (y + 1)) 106 k) (nI b))) n))) (CU H K V W)) : CL (d + 3) mX6_block 0 0 [.inr (.inr (7, y + 1)), .inl bl, .inl wh] (CU H K V W) kk := by
  have n8 := hn.1.2
  obtain ⟨-, -, ⟨b4, b5, b6⟩, -⟩ := hS.pl
  obtain ⟨⟨a1, a2, a3⟩, ⟨a4, a5, a6⟩, -⟩ := hS.now
  refine mw T_X6_block (fun Wm go => go cut0 80 0 _ _ _ _ _ ?_)
  refine nz hS.pl.1.1 ?_
  refine c_hasBlock (CU_e _ _ _ _ _ _) hS.pl hn (fun q1 => br1 ?_) (fun q1 => br0 (hb (fun z => q1 z.1)))
  obtain ⟨b, hbn, rfl⟩ := inB_of q1 (by omega)
  refine And.intro (fun w0 => ?_) (fun w0 => And.intro (fun w1 => ?_) (fun w1 => And.intro (fun w2 => ?_) (fun w2 => And.intro (fun w3 => ?_) (fun w3 => hb (fun z => z.2.elim w0 (fun z => z.elim w1 (fun z => z.elim w2 w3)))))))
  · refine nz a1 ?_
    have k := hg b hbn rfl (Or.inl w0)
    rw [if_pos w0] at k
    exact cld a4 a5 (by decide) a6 (by omega) b rfl (by omega) k
  · have k := hg b hbn rfl (Or.inr (Or.inl w1))
    rw [if_neg w0, if_pos w1] at k
    exact c_standingNow hS hn k
  · refine nz hS.pl.1.1 ?_
    have k := hg b hbn rfl (Or.inr (Or.inr (Or.inl w2)))
    rw [if_neg w0, if_neg w1, if_pos w2] at k
    exact cldo b4 b5 b6 (by omega) b rfl (by omega) k
  · refine nz hS.pl.1.1 ?_
    have k := hg b hbn rfl (Or.inr (Or.inr (Or.inr w3)))
    rw [if_neg w0, if_neg w1, if_neg w2] at k
    exact c_above (CU_e _ _ _ _ _ _) hS.pl hn k
theorem c_stand {wh : Int32} (hS : CS H K (y + 1)) (hn : Pn H (hfR H 604 (y + 1)) n cm) (hs : n = 0 → kk (some (.inl eSTATE)) (CU H K V W)) (hg : 0 < n → kk (some (.inl (if wh = 0 then stC H (hfR H 604 (y + 1)) n W 0 else if wh = 1 then mkS (posB (W 100)) 8 &&& (stC H (hfR H 604 (y + 1)) n W 0 ^^^ (-1)) else if wh = 2 then smI (W 100) 8 else if wh = 3 then V 502 10 else if wh = 4 then smI (W 200) 4 else eBAD))) (CU H K V W)) : CL (d + 3) mX6_stand 0 0 [.inr (.inr (7, y + 1)), .inl wh] (CU H K V W) kk := by
  obtain ⟨⟨a1, a2, a3⟩, -⟩ := hS.now
  refine mw T_X6_stand (fun Wm go => go cut0 80 0 _ _ _ _ _ ?_)
  refine c_hasCastle hS hn (fun q => br1 ?_) (fun q => br0 (hs q))
  have k := hg q
  refine And.intro (fun w0 => ?_) (fun w0 => And.intro (fun w1 => ?_) (fun w1 => And.intro (fun w2 => ?_) (fun w2 => And.intro (fun w3 => ?_) (fun w3 => And.intro (fun w4 => ?_) (fun w4 => ?_)))))
  · rw [if_pos w0] at k
    exact c_standingNow hS hn k
  · rw [if_neg w0, if_pos w1] at k
    refine nz a1 (c_withChalk (CU_e _ _ _ _ _ _) hS.now ?_)
    exact c_standingNow hS hn k
  · rw [if_neg w0, if_neg w1, if_pos w2] at k
    exact nz a1 (c_allChalk (CU_e _ _ _ _ _ _) hS.now k)
  · rw [if_neg w0, if_neg w1, if_neg w2, if_pos w3] at k
    exact nz a1 (kki k (CU_fI a2 (by decide)) rfl)
  · rw [if_neg w0, if_neg w1, if_neg w2, if_neg w3, if_pos w4] at k
    exact nz a1 (c_allLines (CU_e _ _ _ _ _ _) hS.now k)
  · rw [if_neg w0, if_neg w1, if_neg w2, if_neg w3, if_neg w4] at k
    exact k
theorem c_wouldFall {bs : Int32} (hS : CS H K (y + 1)) (hn : Pn H (hfR H 604 (y + 1)) n cm) (hs : n = 0 → kk (some (.inl eSTATE)) (CU H K V W)) (hb : 0 < n → ¬ inB bs (2 ^ n) → kk (some (.inl eBAD)) (CU H K V W)) (hg : 0 < n → inB bs (2 ^ n) → kk (some (.inl (stC H (hfR H 604 (y + 1)) n W 0 &&& (stX H (hfR H 604 (y + 1)) n W bs ^^^ (-1))))) (CU H K V W)) : CL (d + 3) mX6_wouldFall 0 0 [.inr (.inr (7, y + 1)), .inl bs] (CU H K V W) kk := by
  refine mw T_X6_wouldFall (fun Wm go => go cut0 80 0 _ _ _ _ _ ?_)
  refine c_hasCastle hS hn (fun q => br1 ?_) (fun q => br0 (hs q))
  refine nz hS.pl.1.1 ?_
  refine c_areBlocks (CU_e _ _ _ _ _ _) hS.pl hn (fun q1 => br1 ?_) (fun q1 => br0 (hb q q1))
  exact c_fallingWithout hS hn (hg q q1)
end C7
