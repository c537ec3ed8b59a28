/-! ===== the relation over a grown heap; calls that change nothing ===== -/
section Q3
variable {H H' : hp} {K : Nat → Nat} {V W : Nat → Nat → Int32} {y x n cm at' am by' tm t : Nat} {I : Nat → Int32} {A : Nat → Nat → Int32} {rs : Nat → Option Nat}
theorem PPm.ex {p : Nat} (h : PPm H K p) (e : EX H H') : PPm H' K p := by
  obtain ⟨⟨h1, h2⟩, h3, h4, h5, h6, h7⟩ := h
  have r := (e.2 p h2.1).2.1
  refine ⟨⟨h1.ex h2 e, h2.ex e⟩, h3, ?_⟩
  rw [r, r, r, r]
  exact ⟨h4, h5, h6, h7⟩
theorem pI_ex {p f : Nat} (h : PZ H p) (e : EX H H') : pI H' p f = pI H p f := (e.2 p h.1).1 f
theorem pA_ex {p f : Nat} (h : PZ H p) (e : EX H H') (hf : f = 105 ∨ f = 106 ∨ f = 107 ∨ f = 108) : pA H' p f = pA H p f := by
  have r := (e.2 p h.1).2.1
  unfold pA
  rw [r]
  rcases hf with rfl | rfl | rfl | rfl
  · exact (e.2 _ h.2.1).2.2.1
  · exact (e.2 _ h.2.2.1).2.2.1
  · exact (e.2 _ h.2.2.2.1).2.2.1
  · exact (e.2 _ h.2.2.2.2).2.2.1
theorem Pn.ex {p : Nat} (h : Pn H p n cm) (hz' : PZ H p) (e : EX H H') : Pn H' p n cm := by
  unfold Pn
  rw [pI_ex hz' e, pI_ex hz' e]
  exact h
theorem PLE.ex {p : Nat} {re ra ru : Int32} {on ki ha : Nat → Int32} (h : PLE H p cm re ra ru on ki ha) (hz' : PZ H p) (e : EX H H') : PLE H' p cm re ra ru on ki ha := by
  unfold PLE
  rw [pI_ex hz' e, pI_ex hz' e, pI_ex hz' e, pA_ex hz' e (by decide), pA_ex hz' e (by decide), pA_ex hz' e (by decide)]
  exact h
theorem SHm.ex (h : SHm H K x) (e : EX H H') : SHm H' K x := by
  obtain ⟨h1, ⟨h2, h3⟩, h4⟩ := h
  have r := (e.2 x h3).2.1
  have lz := e.1
  refine ⟨⟨fun f hf => ?_, fun f hf g hg => ?_⟩, ⟨h2, by omega⟩, fun f hf => ?_⟩
  · rw [r, (e.2 _ (h4 f hf).2).2.2.2.1]; exact h1.1 f hf
  · rw [r, r]; exact h1.2 f hf g hg
  · rw [r]; have := (h4 f hf).2; exact ⟨(h4 f hf).1, by omega⟩
theorem MVal.ex (h : MVal H x I A) (hs : SHm H K x) (e : EX H H') : MVal H' x I A := by
  have r := e.2 x hs.2.1.2
  refine ⟨fun k => (r.1 k).trans (h.1 k), fun f hf => ?_⟩
  rw [r.2.1, (e.2 _ (hs.2.2 f hf).2).2.2.1]
  exact h.2 f hf
theorem S1.ex {f : Nat} {g : Nat → Int32} (h : S1 H K f g) (h0 : 0 < hz H) (hl : hfR H f 0 < hz H) (e : EX H H') : S1 H' K f g := by
  obtain ⟨⟨s1, s2, s3⟩, s4⟩ := h
  have r := (e.2 0 h0).2.1 f
  unfold S1
  rw [r, (e.2 _ hl).2.2.2.1, (e.2 _ hl).2.2.1]
  exact ⟨⟨s1, s2, s3⟩, s4⟩
theorem STm.ex (h : STm H K) (h0 : 0 < hz H) (e : EX H H') : STm H' K := by
  obtain ⟨⟨a, b, c⟩, h2⟩ := h
  have lz := e.1
  refine ⟨⟨a.ex h0 (h2 9001 (by decide)).2 e, b.ex h0 (h2 9002 (by decide)).2 e, c.ex h0 (h2 9003 (by decide)).2 e⟩, fun f hf => ?_⟩
  rw [(e.2 0 h0).2.1 f]
  have := h2 f hf
  exact ⟨this.1, by omega⟩
theorem SHP.kz (h : SHP H K y x rs n cm) : KZ H K := fun z hz' => by rw [h.2.1 z hz']; decide
theorem RW.ex (h : RW H K y rs) (hS : CS H K y) (hK : KZ H K) (e : EX H H') : RW H' K y rs := by
  have ly := hK.lt (z := y) (by rw [hS.y1]; decide)
  have lr := hK.lt (z := hfR H 600 y) (by rw [hS.rows.2.1]; decide)
  have er : ∀ r, rho H' y r = rho H y r := fun r => by
    unfold rho
    rw [(e.2 y ly).2.1, (e.2 _ lr).2.2.2.2]
  intro r hr
  rw [er]
  rcases h r hr with ⟨z1, z2⟩ | ⟨s, z1, z2, z3, z4, z5, z6⟩
  · exact Or.inl ⟨z1, z2⟩
  · refine Or.inr ⟨s, z1, z2, z3, ?_, z5, z6⟩
    rw [(e.2 _ (hK.lt (by omega))).2.1]
    exact z4.ex (by omega) hK e
theorem ip_ex {k : Nat} (hS : CS H K y) (hK : KZ H K) (e : EX H H') : ip H' y k = ip H y k := by
  unfold ip
  rw [(e.2 y (hK.lt (by rw [hS.y1]; decide))).2.1, (e.2 _ (hK.lt (by rw [hS.ipl.2.1]; decide))).2.2.2.2]
theorem SHP.ex (h : SHP H K y x rs n cm) (e : EX H H') : SHP H' K y x rs n cm := by
  have hK := h.kz
  obtain ⟨h1, h2, h3, h4, h5, h6, h7, h8, h9⟩ := h
  have lz := e.1
  have ly := hK.lt (z := y) (by rw [h1.y1]; decide)
  have r5 := (e.2 y ly).2.1 605
  refine ⟨h1.ex hK h6.1.2 e, fun z hz' => h2 z (by omega), by omega, h4.ex h3 e, h5.ex h1 hK e, ?_, ?_, fun k hk hi => ?_, h9.ex e⟩
  · rw [r5]; exact h6.ex e
  · rw [r5]; exact h7.ex h6.1.2 e
  · rw [ip_ex h1 hK e] at hi ⊢
    exact (h8 k hk hi).ex e
theorem RD.exH (h : RD H K V W y x I A n cm at' am by' tm rs t) (e : EX H H') : RD H' K V W y x I A n cm at' am by' tm rs t := by
  obtain ⟨h1, h2, h3, h4, h5, h6, h7, h8⟩ := h
  have hK := h1.kz
  have ly := hK.lt (z := y) (by rw [h1.1.y1]; decide)
  have r5 := (e.2 y ly).2.1 605
  refine ⟨h1.ex e, h2, h3, ?_, h5, h6, fun k hk => ?_, h8⟩
  · rw [r5]; exact h4.ex h1.2.2.2.2.2.1.1.2 e
  · rw [ip_ex h1.1 hK e]
    refine ⟨(h7 k hk).1, fun hi => ?_⟩
    have hz' := (h1.2.2.2.2.2.2.2.1 k hk hi).1.2
    obtain ⟨n', cm', x1, x2, x3, x4, x5⟩ := (h7 k hk).2 hi
    exact ⟨n', cm', x1.ex hz' e, x2, x3, x4.ex hz' e, x5⟩
theorem ro {y2 : MI} {args : List pv} {kk1 : Rt} {v : Int32} (hmv : MVal H x I A) (hR : RD H K V W y x I A n cm at' am by' tm rs t) (hk1 : ∀ (v : Int32) h1, (∀ kk2 : Rt, (∀ h2, INV y x (t + 1) h2 → kk2 (some (.inl v)) h2) → CL 20 y2 0 0 (.inr (.inr (8, x)) :: args) h1 kk2) → kk1 (some (.inl v)) h1)
    (hm : ∀ kk2 : Rt, (∀ A', EA A A' → kk2 (some (.inl v)) (MU (CU H K V W) x I A')) → CL 20 y2 0 0 (.inr (.inr (8, x)) :: args) (MU (CU H K V W) x I A) kk2) : kk1 (some (.inl v)) (CU H K V W) :=
  gen hmv hR.1.2.2.2.2.2.2.2.2 hk1 (fun kk2 h => hm kk2 (fun A' e => h I A' (hR.t1.ea e).toX))
theorem roL {y2 : MI} {args : List pv} {kk1 : Rt} {v : Int64} (hmv : MVal H x I A) (hR : RD H K V W y x I A n cm at' am by' tm rs t) (hk1 : ∀ (v : Int64) h1, (∀ kk2 : Rt, (∀ h2, INV y x (t + 1) h2 → kk2 (some (.inr (.inl v))) h2) → CL 20 y2 0 0 (.inr (.inr (8, x)) :: args) h1 kk2) → kk1 (some (.inr (.inl v))) h1)
    (hm : ∀ kk2 : Rt, (∀ A', EA A A' → kk2 (some (.inr (.inl v))) (MU (CU H K V W) x I A')) → CL 20 y2 0 0 (.inr (.inr (8, x)) :: args) (MU (CU H K V W) x I A) kk2) : kk1 (some (.inr (.inl v))) (CU H K V W) :=
  genL hmv hR.1.2.2.2.2.2.2.2.2 hk1 (fun kk2 h => hm kk2 (fun A' e => h I A' (hR.t1.ea e).toX))
theorem inR2 {v : Int32} : inR v 0 1 ↔ inB v 2 := inR_B (n := 2) (by decide)
theorem inR8 {v : Int32} : inR v 0 7 ↔ inB v 8 := inR_B (n := 8) (by decide)
end Q3
section Q4
variable {H : hp} {K : Nat → Nat} {V W : Nat → Nat → Int32} {y x n cm at' am by' tm t : Nat} {I : Nat → Int32} {A : Nat → Nat → Int32} {rs : Nat → Option Nat}
theorem RD.cs (hR : RD H K V W y x I A n cm at' am by' tm rs t) : CS H K y := hR.1.1
theorem RD.pn (hR : RD H K V W y x I A n cm at' am by' tm rs t) : Pn H (hfR H 605 y) n cm := hR.1.2.2.2.2.2.2.1
theorem RD.ms (hR : RD H K V W y x I A n cm at' am by' tm rs t) : MSh (CU H K V W) x := hR.1.2.2.2.2.2.2.2.2.1
theorem RD.mi (hR : RD H K V W y x I A n cm at' am by' tm rs t) : MIn I n cm at' am by' tm := hR.2.1
theorem RD.on (hR : RD H K V W y x I A n cm at' am by' tm rs t) {j : Nat} (hj : j < 8) : pA H (hfR H 605 y) 106 j = A 712 j := hR.2.2.2.1.2.1 j hj
theorem RD.ki (hR : RD H K V W y x I A n cm at' am by' tm rs t) {c : Nat} (hc : c < cm) : pA H (hfR H 605 y) 107 c = A 714 c := (hR.2.2.2.1.2.2 c hc).1
theorem RD.ha (hR : RD H K V W y x I A n cm at' am by' tm rs t) {c : Nat} (hc : c < cm) : pA H (hfR H 605 y) 108 c = A 713 c := (hR.2.2.2.1.2.2 c hc).2
theorem RD.w1 (hR : RD H K V W y x I A n cm at' am by' tm rs t) {j : Nat} (hj : j < 8) : W 100 j = A 715 j := hR.2.2.2.2.1.1.1 j hj
theorem RD.w2 (hR : RD H K V W y x I A n cm at' am by' tm rs t) {c : Nat} (hc : c < 4) : W 200 c = A 715 (8 + c) := hR.2.2.2.2.1.1.2.1 c hc
theorem RD.du (hR : RD H K V W y x I A n cm at' am by' tm rs t) : V 502 10 = A 715 12 := hR.2.2.2.2.1.1.2.2.1
theorem RD.dy (hR : RD H K V W y x I A n cm at' am by' tm rs t) : V 503 10 = A 715 13 := hR.2.2.2.2.1.1.2.2.2
theorem RD.tk (hR : RD H K V W y x I A n cm at' am by' tm rs t) {c : Nat} (hc : c < cm) (l : Int32) : tkC H (hfR H 605 y) V c l = tkN A c l := by
  unfold tkC tkN
  rw [hR.ki hc, hR.ha hc, hR.dy]
theorem RD.n8 (hR : RD H K V W y x I A n cm at' am by' tm rs t) : n ≤ 8 := hR.pn.1.2
theorem RD.c4 (hR : RD H K V W y x I A n cm at' am by' tm rs t) : cm ≤ 4 := hR.pn.2.2
theorem RD.st (hR : RD H K V W y x I A n cm at' am by' tm rs t) : stC H (hfR H 605 y) n W 0 = stN A n := by
  have n8 := hR.n8
  refine stP_congr (fun k hk => ⟨hR.on (by omega), ?_⟩)
  show posB (W 100) k = posB (A 715) k
  unfold posB
  rw [hR.w1 (by omega)]
theorem RD.sx (hR : RD H K V W y x I A n cm at' am by' tm rs t) (set : Int32) : stX H (hfR H 605 y) n W set = stW A n set := by
  have n8 := hR.n8
  refine stP_congr (fun k hk => ⟨hR.on (by omega), ?_⟩)
  show (posB (W 100) k && _) = (posB (A 715) k && _)
  unfold posB
  rw [hR.w1 (by omega)]
end Q4
section Q5
variable {H : hp} {K : Nat → Nat} {V W : Nat → Nat → Int32} {y x n cm at' am by' tm t : Nat} {I : Nat → Int32} {A : Nat → Nat → Int32} {rs : Nat → Option Nat}
theorem b_status (hmv : MVal H (x + 1) I A) (hR : RD H K V W (y + 1) (x + 1) I A n cm at' am by' tm rs t) : Both 0 0 mX6_status mX7_status [] (y + 1) (x + 1) (CU H K V W) (INV (y + 1) (x + 1) (t + 1)) := by
  intro kk1 hk1
  refine c_status hR.cs ?_
  have e : V 604 1 = I 700 := hR.2.2.2.2.2.1.1.2.2.2.2.1
  rw [e]
  exact ro hmv hR hk1 (fun kk2 h2 => m_status (h2 A (EA.rf A)))
theorem b_fault (hmv : MVal H (x + 1) I A) (hR : RD H K V W (y + 1) (x + 1) I A n cm at' am by' tm rs t) : Both 0 0 mX6_fault mX7_fault [] (y + 1) (x + 1) (CU H K V W) (INV (y + 1) (x + 1) (t + 1)) := by
  intro kk1 hk1
  refine c_fault hR.cs ?_
  have e : V 603 1 = I 706 := hR.2.2.2.2.2.1.1.2.2.2.1
  rw [e]
  exact ro hmv hR hk1 (fun kk2 h2 => m_fault (h2 A (EA.rf A)))
theorem b_kind {cl : Int32} (hmv : MVal H (x + 1) I A) (hR : RD H K V W (y + 1) (x + 1) I A n cm at' am by' tm rs t) : Both 0 0 mX6_kind mX7_kind [.inl cl] (y + 1) (x + 1) (CU H K V W) (INV (y + 1) (x + 1) (t + 1)) := by
  intro kk1 hk1
  have c4 := hR.c4
  refine c_kind hR.cs hR.pn (fun c => ro hmv hR hk1 (fun kk2 h2 => m_kind hR.ms hR.mi (fun _ => h2 A (EA.rf A)) (fun c' hc e => absurd (by rw [e]; exact inB_nI hc (by omega)) c))) (fun c hc e => ro hmv hR hk1 (fun kk2 h2 => m_kind hR.ms hR.mi (fun z => absurd (by rw [e]; exact inB_nI hc (by omega)) z) (fun c' hc' e' => ?_)))
  have ec : c = c' := nIj (by omega) (by omega) (e.symm.trans e')
  subst ec
  exact kki (h2 A (EA.rf A)) (hR.ki hc).symm rfl
theorem b_takes {cl li : Int32} (hmv : MVal H (x + 1) I A) (hR : RD H K V W (y + 1) (x + 1) I A n cm at' am by' tm rs t) : Both 0 0 mX6_takes mX7_takes [.inl cl, .inl li] (y + 1) (x + 1) (CU H K V W) (INV (y + 1) (x + 1) (t + 1)) := by
  intro kk1 hk1
  have c4 := hR.c4
  refine c_takes hR.cs hR.pn (fun c => ro hmv hR hk1 (fun kk2 h2 => m_takes hR.ms hR.mi (fun _ => h2 A (EA.rf A)) (fun c' hc e q => absurd ⟨by rw [e]; exact inB_nI hc (by omega), q⟩ c))) (fun c hc e q => ro hmv hR hk1 (fun kk2 h2 => m_takes hR.ms hR.mi (fun z => absurd ⟨by rw [e]; exact inB_nI hc (by omega), q⟩ z) (fun c' hc' e' _ => ?_)))
  have ec : c = c' := nIj (by omega) (by omega) (e.symm.trans e')
  subst ec
  exact kki (h2 A (EA.rf A)) (hR.tk hc li).symm rfl
theorem w01 {wh : Int32} : inR wh 0 1 ↔ (wh = 0 ∨ wh = 1) := by
  constructor
  · intro h
    obtain ⟨m, m1, m2, rfl⟩ := inR_n (a := 0) (b := 1) (by decide) h (by decide)
    have : m = 0 ∨ m = 1 := by omega
    rcases this with rfl | rfl
    · exact Or.inl rfl
    · exact Or.inr rfl
  · rintro (rfl | rfl) <;> decide
theorem w03 {wh : Int32} : inR wh 0 3 ↔ (wh = 0 ∨ wh = 1 ∨ wh = 2 ∨ wh = 3) := by
  constructor
  · intro h
    obtain ⟨m, m1, m2, rfl⟩ := inR_n (a := 0) (b := 3) (by decide) h (by decide)
    have : m = 0 ∨ m = 1 ∨ m = 2 ∨ m = 3 := by omega
    rcases this with rfl | rfl | rfl | rfl
    · exact Or.inl rfl
    · exact Or.inr (Or.inl rfl)
    · exact Or.inr (Or.inr (Or.inl rfl))
    · exact Or.inr (Or.inr (Or.inr rfl))
  · rintro (rfl | rfl | rfl | rfl) <;> decide
theorem b_clerk {cl wh : Int32} (hmv : MVal H (x + 1) I A) (hR : RD H K V W (y + 1) (x + 1) I A n cm at' am by' tm rs t) : Both 0 0 mX6_clerk mX7_clerk [.inl cl, .inl wh] (y + 1) (x + 1) (CU H K V W) (INV (y + 1) (x + 1) (t + 1)) := by
  intro kk1 hk1
  have c4 := hR.c4
  refine c_clerk hR.cs hR.pn (fun c => ro hmv hR hk1 (fun kk2 h2 => m_clerk hR.ms hR.mi (fun _ => h2 A (EA.rf A)) (fun c' hc e q => absurd ⟨by rw [e]; exact inB_nI hc (by omega), w01.mp q⟩ c))) (fun c hc e q => ro hmv hR hk1 (fun kk2 h2 => m_clerk hR.ms hR.mi (fun z => absurd ⟨by rw [e]; exact inB_nI hc (by omega), w01.mpr q⟩ z) (fun c' hc' e' _ => ?_)))
  have ec : c = c' := nIj (by omega) (by omega) (e.symm.trans e')
  subst ec
  refine kki (h2 A (EA.rf A)) ?_ rfl
  rw [hR.ha hc, hR.w2 (by omega)]
theorem b_block {bl wh : Int32} (hmv : MVal H (x + 1) I A) (hR : RD H K V W (y + 1) (x + 1) I A n cm at' am by' tm rs t) : Both 0 0 mX6_block mX7_block [.inl bl, .inl wh] (y + 1) (x + 1) (CU H K V W) (INV (y + 1) (x + 1) (t + 1)) := by
  intro kk1 hk1
  have n8 := hR.n8
  refine c_block hR.cs hR.pn (fun c => ro hmv hR hk1 (fun kk2 h2 => m_block hR.ms hR.mi (fun _ => h2 A (EA.rf A)) (fun b hb e q => absurd ⟨by rw [e]; exact inB_nI hb (by omega), w03.mp q⟩ c))) (fun b hb e q => ro hmv hR hk1 (fun kk2 h2 => m_block hR.ms hR.mi (fun z => absurd ⟨by rw [e]; exact inB_nI hb (by omega), w03.mpr q⟩ z) (fun b' hb' e' _ => ?_)))
  have ec : b = b' := nIj (by omega) (by omega) (e.symm.trans e')
  subst ec
  refine kki (h2 A (EA.rf A)) ?_ rfl
  have em : mkS (fun k => decide (hasB (pA H (hfR H 605 (y + 1)) 106 k) (nI b))) n = mkS (fun k => decide (hasB (A 712 k) (nI b))) n := mkS_congr (fun k hk => by rw [hR.on (by omega)])
  rw [hR.w1 (by omega), hR.st, hR.on (by omega), em]
theorem b_wouldFall {bs : Int32} (hmv : MVal H (x + 1) I A) (hR : RD H K V W (y + 1) (x + 1) I A n cm at' am by' tm rs t) : Both 0 0 mX6_wouldFall mX7_wouldFall [.inl bs] (y + 1) (x + 1) (CU H K V W) (INV (y + 1) (x + 1) (t + 1)) := by
  intro kk1 hk1
  refine c_wouldFall hR.cs hR.pn (fun c => ro hmv hR hk1 (fun kk2 h2 => m_wouldFall hR.ms hR.mi (fun _ => h2 A (EA.rf A)) (fun z _ => absurd c (by omega)) (fun A' z _ _ => absurd c (by omega)))) (fun c q => ro hmv hR hk1 (fun kk2 h2 => m_wouldFall hR.ms hR.mi (fun z => absurd z (by omega)) (fun _ _ => h2 A (EA.rf A)) (fun A' _ z _ => absurd z q))) (fun c q => ?_)
  rw [hR.st, hR.sx]
  exact ro hmv hR hk1 (fun kk2 h2 => m_wouldFall hR.ms hR.mi (fun z => absurd z (by omega)) (fun _ z => absurd q z) (fun A' _ _ e => h2 A' e))
theorem b_trace {i : Int32} (hmv : MVal H (x + 1) I A) (hR : RD H K V W (y + 1) (x + 1) I A n cm at' am by' tm rs t) : Both 0 0 mX6_trace mX7_trace [.inl i] (y + 1) (x + 1) (CU H K V W) (INV (y + 1) (x + 1) (t + 1)) := by
  intro kk1 hk1
  have ht := hR.mi.2.2.2.2.2
  have e3 : V 1 3 = nI tm := (hR.2.2.2.2.2.1.1.2.2.2.2.2).trans ht.1
  refine c_trace hR.cs e3 ht.2 (fun c => ro hmv hR hk1 (fun kk2 h2 => m_trace hR.ms hR.mi (fun _ => h2 A (EA.rf A)) (fun c' hc e => absurd (by rw [e]; exact inB_nI hc (by omega)) c))) (fun c hc e => ro hmv hR hk1 (fun kk2 h2 => m_trace hR.ms hR.mi (fun z => absurd (by rw [e]; exact inB_nI hc (by omega)) z) (fun c' hc' e' => ?_)))
  have ec : c = c' := nIj (by omega) (by omega) (e.symm.trans e')
  subst ec
  exact kki (h2 A (EA.rf A)) (hR.2.2.2.2.2.1.2.2.1 c hc).symm rfl
end Q5
