/-! ===== the relation over a grown heap; calls that change nothing ===== -/
section Q3
variable {H H' : hp} {K : Nat → Nat} {V W : Nat → Nat → Int32} {y x n cm at' am by' tm t : Nat} {I : Nat → Int32} {A : Nat → Nat → Int32} {rs : Nat → Option Nat}
theorem ro {y2 : MI} {args : List pv} {kk1 : Rt} {v : Int32} (hmv : MVal H x I A) (hR : RD H K V W y x I A n cm at' am by' tm rs t) (hk1 : ∀ (v : Int32) h1, (∀ kk2 : Rt, (∀ h2, INV y x (t + 1) h2 → kk2 (some (.inl v)) h2) → CL 20 y2 0 0 (.inr (.inr (8, x)) :: args) h1 kk2) → kk1 (some (.inl v)) h1)
    (hm : ∀ kk2 : Rt, (∀ A', EA A A' → kk2 (some (.inl v)) (MU (CU H K V W) x I A')) → CL 20 y2 0 0 (.inr (.inr (8, x)) :: args) (MU (CU H K V W) x I A) kk2) : kk1 (some (.inl v)) (CU H K V W) :=
  gen hmv hR.1.2.2.2.1 hk1 (fun kk2 h => hm kk2 (fun A' e => h I A' (hR.t1.ea e).toX))
theorem roL {y2 : MI} {args : List pv} {kk1 : Rt} {v : Int64} (hmv : MVal H x I A) (hR : RD H K V W y x I A n cm at' am by' tm rs t) (hk1 : ∀ (v : Int64) h1, (∀ kk2 : Rt, (∀ h2, INV y x (t + 1) h2 → kk2 (some (.inr (.inl v))) h2) → CL 20 y2 0 0 (.inr (.inr (8, x)) :: args) h1 kk2) → kk1 (some (.inr (.inl v))) h1)
    (hm : ∀ kk2 : Rt, (∀ A', EA A A' → kk2 (some (.inr (.inl v))) (MU (CU H K V W) x I A')) → CL 20 y2 0 0 (.inr (.inr (8, x)) :: args) (MU (CU H K V W) x I A) kk2) : kk1 (some (.inr (.inl v))) (CU H K V W) :=
  genL hmv hR.1.2.2.2.1 hk1 (fun kk2 h => hm kk2 (fun A' e => h I A' (hR.t1.ea e).toX))
theorem inR2 {v : Int32} : inR v 0 1 ↔ inB v 2 := inR_B (n := 2) (by decide)
theorem inR8 {v : Int32} : inR v 0 7 ↔ inB v 8 := inR_B (n := 8) (by decide)
end Q3
section Q4
variable {H : hp} {K : Nat → Nat} {V W : Nat → Nat → Int32} {y x n cm at' am by' tm t : Nat} {I : Nat → Int32} {A : Nat → Nat → Int32} {rs : Nat → Option Nat}
theorem RD.cs (hR : RD H K V W y x I A n cm at' am by' tm rs t) : CS H K y := hR.1.1
theorem RD.pn (hR : RD H K V W y x I A n cm at' am by' tm rs t) : Pn H (hfR H 604 y) n cm := hR.1.2.2.1
theorem RD.ms (hR : RD H K V W y x I A n cm at' am by' tm rs t) : MSh (CU H K V W) x := hR.1.2.2.2.1.1
theorem RD.stt (hR : RD H K V W y x I A n cm at' am by' tm rs t) : ST H K := hR.1.2.1.1
theorem RD.rl (hR : RD H K V W y x I A n cm at' am by' tm rs t) : RLs V rs := fun r hr => by
  have e := hR.2.2.2.2.2.1.2.2.2.1 r hr
  rcases hR.2.2.1 r hr with ⟨z1, z2⟩ | ⟨s, z1, z2, z3⟩
  · exact Or.inl ⟨z1, e.trans z2⟩
  · exact Or.inr ⟨s, z1, z2, e.trans z3⟩
theorem RD.mi (hR : RD H K V W y x I A n cm at' am by' tm rs t) : MIn I n cm at' am by' tm := hR.2.1
theorem RD.on (hR : RD H K V W y x I A n cm at' am by' tm rs t) {j : Nat} (hj : j < 8) : pA H (hfR H 604 y) 106 j = A 712 j := hR.2.2.2.1.2.1 j hj
theorem RD.ki (hR : RD H K V W y x I A n cm at' am by' tm rs t) {c : Nat} (hc : c < cm) : pA H (hfR H 604 y) 108 c = A 714 c := (hR.2.2.2.1.2.2 c hc).1
theorem RD.ha (hR : RD H K V W y x I A n cm at' am by' tm rs t) {c : Nat} (hc : c < cm) : pA H (hfR H 604 y) 109 c = A 713 c := (hR.2.2.2.1.2.2 c hc).2
theorem RD.w1 (hR : RD H K V W y x I A n cm at' am by' tm rs t) {j : Nat} (hj : j < 8) : W 100 j = A 715 j := hR.2.2.2.2.1.1.1 j hj
theorem RD.w2 (hR : RD H K V W y x I A n cm at' am by' tm rs t) {c : Nat} (hc : c < 4) : W 200 c = A 715 (8 + c) := hR.2.2.2.2.1.1.2.1 c hc
theorem RD.du (hR : RD H K V W y x I A n cm at' am by' tm rs t) : V 502 10 = A 715 12 := hR.2.2.2.2.1.1.2.2.1
theorem RD.dy (hR : RD H K V W y x I A n cm at' am by' tm rs t) : V 503 10 = A 715 13 := hR.2.2.2.2.1.1.2.2.2
theorem RD.tk (hR : RD H K V W y x I A n cm at' am by' tm rs t) {c : Nat} (hc : c < cm) (l : Int32) : tkC H (hfR H 604 y) V c l = tkN A c l := by
  unfold tkC tkN
  rw [hR.ki hc, hR.ha hc, hR.dy]
theorem RD.n8 (hR : RD H K V W y x I A n cm at' am by' tm rs t) : n ≤ 8 := hR.pn.1.2
theorem RD.c4 (hR : RD H K V W y x I A n cm at' am by' tm rs t) : cm ≤ 4 := hR.pn.2.2
theorem RD.st (hR : RD H K V W y x I A n cm at' am by' tm rs t) : stC H (hfR H 604 y) n W 0 = stN A n := by
  have n8 := hR.n8
  refine stP_congr (fun k hk => ⟨hR.on (by omega), ?_⟩)
  show posB (W 100) k = posB (A 715) k
  unfold posB
  rw [hR.w1 (by omega)]
theorem RD.sx (hR : RD H K V W y x I A n cm at' am by' tm rs t) (set : Int32) : stX H (hfR H 604 y) n W set = stW A n set := by
  have n8 := hR.n8
  refine stP_congr (fun k hk => ⟨hR.on (by omega), ?_⟩)
  show (posB (W 100) k && _) = (posB (A 715) k && _)
  unfold posB
  rw [hR.w1 (by omega)]
end Q4
section Q5
variable {H : hp} {K : Nat → Nat} {V W : Nat → Nat → Int32} {y x n cm at' am by' tm t : Nat} {I : Nat → Int32} {A : Nat → Nat → Int32} {rs : Nat → Option Nat}
theorem b_status (hmv : MVal H (x + 1) I A) (hR : RD H K V W (y + 1) (x + 1) I A n cm at' am by' tm rs t) : Both 0 0 mX6_status mX7_status [] (y + 1) (x + 1) (CU H K V W) (INV (y + 1) (x + 1) (t + 1)) := by
  intro kk1 hk1
  refine c_status hR.cs ?_
  have e : V 603 1 = I 700 := hR.2.2.2.2.2.1.1.2.2.2.2.1
  rw [e]
  exact ro hmv hR hk1 (fun kk2 h2 => m_status (h2 A (EA.rf A)))
theorem b_fault (hmv : MVal H (x + 1) I A) (hR : RD H K V W (y + 1) (x + 1) I A n cm at' am by' tm rs t) : Both 0 0 mX6_fault mX7_fault [] (y + 1) (x + 1) (CU H K V W) (INV (y + 1) (x + 1) (t + 1)) := by
  intro kk1 hk1
  refine c_fault hR.cs ?_
  have e : V 602 1 = I 706 := hR.2.2.2.2.2.1.1.2.2.2.1
  rw [e]
  exact ro hmv hR hk1 (fun kk2 h2 => m_fault (h2 A (EA.rf A)))
theorem b_kind {cl : Int32} (hmv : MVal H (x + 1) I A) (hR : RD H K V W (y + 1) (x + 1) I A n cm at' am by' tm rs t) : Both 0 0 mX6_kind mX7_kind [.inl cl] (y + 1) (x + 1) (CU H K V W) (INV (y + 1) (x + 1) (t + 1)) := by
  intro kk1 hk1
  have c4 := hR.c4
  refine c_kind hR.cs hR.pn (fun c => ro hmv hR hk1 (fun kk2 h2 => m_kind hR.ms hR.mi (fun _ => h2 A (EA.rf A)) (fun c' hc e => absurd (by rw [e]; exact inB_nI hc (by omega)) c))) (fun c hc e => ro hmv hR hk1 (fun kk2 h2 => m_kind hR.ms hR.mi (fun z => absurd (by rw [e]; exact inB_nI hc (by omega)) z) (fun c' hc' e' => ?_)))
  have ec : c = c' := nIj (by omega) (by omega) (e.symm.trans e')
  subst ec
  exact kki (h2 A (EA.rf A)) (hR.ki hc).symm rfl
theorem b_takes {cl li : Int32} (hmv : MVal H (x + 1) I A) (hR : RD H K V W (y + 1) (x + 1) I A n cm at' am by' tm rs t) : Both 0 0 mX6_takes mX7_takes [.inl cl, .inl li] (y + 1) (x + 1) (CU H K V W) (INV (y + 1) (x + 1) (t + 1)) := by
  intro kk1 hk1
  have c4 := hR.c4
  refine c_takes hR.cs hR.pn (fun c => ro hmv hR hk1 (fun kk2 h2 => m_takes hR.ms hR.mi (fun _ => h2 A (EA.rf A)) (fun c' hc e q => absurd ⟨by rw [e]; exact inB_nI hc (by omega), q⟩ c))) (fun c hc e q => ro hmv hR hk1 (fun kk2 h2 => m_takes hR.ms hR.mi (fun z => absurd ⟨by rw [e]; exact inB_nI hc (by omega), q⟩ z) (fun c' hc' e' _ => ?_)))
  have ec : c = c' := nIj (by omega) (by omega) (e.symm.trans e')
  subst ec
  exact kki (h2 A (EA.rf A)) (hR.tk hc li).symm rfl
theorem w01 {wh : Int32} : inR wh 0 1 ↔ (wh = 0 ∨ wh = 1) := by
  constructor
  · intro h
    obtain ⟨m, m1, m2, rfl⟩ := inR_n (a := 0) (b := 1) (by decide) h (by decide)
    have : m = 0 ∨ m = 1 := by omega
    rcases this with rfl | rfl
    · exact Or.inl rfl
    · exact Or.inr rfl
  · rintro (rfl | rfl) <;> decide
theorem w03 {wh : Int32} : inR wh 0 3 ↔ (wh = 0 ∨ wh = 1 ∨ wh = 2 ∨ wh = 3) := by
  constructor
  · intro h
    obtain ⟨m, m1, m2, rfl⟩ := inR_n (a := 0) (b := 3) (by decide) h (by decide)
    have : m = 0 ∨ m = 1 ∨ m = 2 ∨ m = 3 := by omega
    rcases this with rfl | rfl | rfl | rfl
    · exact Or.inl rfl
    · exact Or.inr (Or.inl rfl)
    · exact Or.inr (Or.inr (Or.inl rfl))
    · exact Or.inr (Or.inr (Or.inr rfl))
  · rintro (rfl | rfl | rfl | rfl) <;> decide
theorem b_clerk {cl wh : Int32} (hmv : MVal H (x + 1) I A) (hR : RD H K V W (y + 1) (x + 1) I A n cm at' am by' tm rs t) : Both 0 0 mX6_clerk mX7_clerk [.inl cl, .inl wh] (y + 1) (x + 1) (CU H K V W) (INV (y + 1) (x + 1) (t + 1)) := by
  intro kk1 hk1
  have c4 := hR.c4
  refine c_clerk hR.cs hR.pn (fun c => ro hmv hR hk1 (fun kk2 h2 => m_clerk hR.ms hR.mi (fun _ => h2 A (EA.rf A)) (fun c' hc e q => absurd ⟨by rw [e]; exact inB_nI hc (by omega), w01.mp q⟩ c))) (fun c hc e q => ro hmv hR hk1 (fun kk2 h2 => m_clerk hR.ms hR.mi (fun z => absurd ⟨by rw [e]; exact inB_nI hc (by omega), w01.mpr q⟩ z) (fun c' hc' e' _ => ?_)))
  have ec : c = c' := nIj (by omega) (by omega) (e.symm.trans e')
  subst ec
  refine kki (h2 A (EA.rf A)) ?_ rfl
  rw [hR.ha hc, hR.w2 (by omega)]
theorem b_block {bl wh : Int32} (hmv : MVal H (x + 1) I A) (hR : RD H K V W (y + 1) (x + 1) I A n cm at' am by' tm rs t) : Both 0 0 mX6_block mX7_block [.inl bl, .inl wh] (y + 1) (x + 1) (CU H K V W) (INV (y + 1) (x + 1) (t + 1)) := by
  intro kk1 hk1
  have n8 := hR.n8
  refine c_block hR.cs hR.pn (fun c => ro hmv hR hk1 (fun kk2 h2 => m_block hR.ms hR.mi (fun _ => h2 A (EA.rf A)) (fun b hb e q => absurd ⟨by rw [e]; exact inB_nI hb (by omega), w03.mp q⟩ c))) (fun b hb e q => ro hmv hR hk1 (fun kk2 h2 => m_block hR.ms hR.mi (fun z => absurd ⟨by rw [e]; exact inB_nI hb (by omega), w03.mpr q⟩ z) (fun b' hb' e' _ => ?_)))
  have ec : b = b' := nIj (by omega) (by omega) (e.symm.trans e')
  subst ec
  refine kki (h2 A (EA.rf A)) ?_ rfl
  have em : mkS (fun k => decide (hasB (pA H (hfR H 604 (y + 1)) 106 k) (nI b))) n = mkS (fun k => decide (hasB (A 712 k) (nI b))) n := mkS_congr (fun k hk => by rw [hR.on (by omega)])
  rw [hR.w1 (by omega), hR.st, hR.on (by omega), em]
theorem b_wouldFall {bs : Int32} (hmv : MVal H (x + 1) I A) (hR : RD H K V W (y + 1) (x + 1) I A n cm at' am by' tm rs t) : Both 0 0 mX6_wouldFall mX7_wouldFall [.inl bs] (y + 1) (x + 1) (CU H K V W) (INV (y + 1) (x + 1) (t + 1)) := by
  intro kk1 hk1
  refine c_wouldFall hR.cs hR.pn (fun c => ro hmv hR hk1 (fun kk2 h2 => m_wouldFall hR.ms hR.mi (fun _ => h2 A (EA.rf A)) (fun z _ => absurd c (by omega)) (fun A' z _ _ => absurd c (by omega)))) (fun c q => ro hmv hR hk1 (fun kk2 h2 => m_wouldFall hR.ms hR.mi (fun z => absurd z (by omega)) (fun _ _ => h2 A (EA.rf A)) (fun A' _ z _ => absurd z q))) (fun c q => ?_)
  rw [hR.st, hR.sx]
  exact ro hmv hR hk1 (fun kk2 h2 => m_wouldFall hR.ms hR.mi (fun z => absurd z (by omega)) (fun _ z => absurd q z) (fun A' _ _ e => h2 A' e))
theorem b_trace {i : Int32} (hmv : MVal H (x + 1) I A) (hR : RD H K V W (y + 1) (x + 1) I A n cm at' am by' tm rs t) : Both 0 0 mX6_trace mX7_trace [.inl i] (y + 1) (x + 1) (CU H K V W) (INV (y + 1) (x + 1) (t + 1)) := by
  intro kk1 hk1
  have ht := hR.mi.2.2.2.2.2
  have e3 : V 1 3 = nI tm := (hR.2.2.2.2.2.1.1.2.2.2.2.2).trans ht.1
  refine c_trace hR.cs e3 ht.2 (fun c => ro hmv hR hk1 (fun kk2 h2 => m_trace hR.ms hR.mi (fun _ => h2 A (EA.rf A)) (fun c' hc e => absurd (by rw [e]; exact inB_nI hc (by omega)) c))) (fun c hc e => ro hmv hR hk1 (fun kk2 h2 => m_trace hR.ms hR.mi (fun z => absurd (by rw [e]; exact inB_nI hc (by omega)) z) (fun c' hc' e' => ?_)))
  have ec : c = c' := nIj (by omega) (by omega) (e.symm.trans e')
  subst ec
  exact kki (h2 A (EA.rf A)) (hR.2.2.2.2.2.1.2.2.1 c hc).symm rfl
end Q5
