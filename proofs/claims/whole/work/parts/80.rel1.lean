/-! ===== the relation between the class's cells and the reference's ===== -/
theorem nIj {a b : Nat} (ha : a < 2 ^ 31) (hb : b < 2 ^ 31) (e : nI a = nI b) : a = b := by
  have := congrArg Int32.toNatClampNeg e
  rw [nI_clamp ha, nI_clamp hb] at this
  exact this
theorem MU_cg {h : hp} {x : Nat} {I : Nat → Int32} {A A' : Nat → Nat → Int32} (e : ∀ f ∈ MF, A f = A' f) : MU h x I A = MU h x I A' := by
  unfold MU
  refine Prod.ext rfl (Prod.ext rfl (Prod.ext ?_ rfl))
  funext y
  show (match MF.find? (fun f => y == h.2.1 f x) with | some f => A f | none => h.2.2.1 y) = (match MF.find? (fun f => y == h.2.1 f x) with | some f => A' f | none => h.2.2.1 y)
  cases hq : MF.find? (fun f => y == h.2.1 f x) with
  | none => rfl
  | some q => exact e q (List.mem_of_find?_eq_some hq)
abbrev ip (H : hp) (y k : Nat) : Nat := haR H (hfR H 609 y) k
def SHm (H : hp) (K : Nat → Nat) (x : Nat) : Prop := MSh H x ∧ (K x = 700 ∧ x < hz H) ∧ ∀ f ∈ MF, K (hfR H f x) = 700 ∧ hfR H f x < hz H
def STm (H : hp) (K : Nat → Nat) : Prop := ST H K ∧ ∀ f, (f = 9001 ∨ f = 9002 ∨ f = 9003) → K (hfR H f 0) = 500
def MVal (H : hp) (x : Nat) (I : Nat → Int32) (A : Nat → Nat → Int32) : Prop := (∀ k, hfI H k x = I k) ∧ ∀ f ∈ MF, haI H (hfR H f x) = A f
/-- a plan's layers are settled -/
def SET (H : hp) (p : Nat) : Prop := ∀ n, pI H p 102 = nI n → n ≤ 8 → ∀ j, j < 8 → pA H p 107 j = lyF (pA H p 106) n j
/-- the shape of the two -/
def SHP (H : hp) (K : Nat → Nat) (y x n cm : Nat) : Prop := CS H K y ∧ STm H K ∧ Pn H (hfR H 604 y) n cm ∧ SHm H K x ∧ SET H (hfR H 604 y) ∧ ∀ k, k < 2 → SET H (ip H y k)
section Q1
variable {H : hp} {K : Nat → Nat} {V W : Nat → Nat → Int32} {y x n cm : Nat} {I : Nat → Int32} {A : Nat → Nat → Int32}
theorem CU_MU (h1 : 400 ≤ K x) (h2 : ∀ f ∈ MF, 400 ≤ K (hfR H f x)) : MU (CU H K V W) x I A = CU (MU H x I A) K V W := by
  unfold MU CU
  refine Prod.ext ?_ (Prod.ext rfl (Prod.ext ?_ rfl))
  · funext k z
    show (if z = x then I k else if K z < 400 then V k (K z) else H.1 k z) = (if K z < 400 then V k (K z) else if z = x then I k else H.1 k z)
    by_cases c : z = x
    · rw [if_pos c, if_pos c, if_neg (by rw [c]; omega)]
    · rw [if_neg c, if_neg c]
  · funext z
    show (match MF.find? (fun f => z == H.2.1 f x) with | some f => A f | none => if K z < 400 then W (K z) else H.2.2.1 z) = (if K z < 400 then W (K z) else match MF.find? (fun f => z == H.2.1 f x) with | some f => A f | none => H.2.2.1 z)
    cases hq : MF.find? (fun f => z == H.2.1 f x) with
    | none => rfl
    | some q =>
      have hbq := List.find?_some hq
      have e1 : z = hfR H q x := eq_of_beq hbq
      have e2 := h2 q (List.mem_of_find?_eq_some hq)
      rw [← e1] at e2
      dsimp only
      rw [if_neg (by omega)]
theorem SHm.mu (h : SHm H K x) : SHm (MU H x I A) K x := h
theorem MVal.cu (h : MVal H x I A) (hs : SHm H K x) : MU (CU H K V W) x I A = CU H K V W := by
  have e := MU_self (h := CU H K V W) (x := x) hs.1
  have e1 : (fun k => hfI (CU H K V W) k x) = I := by
    funext k
    exact (CU_fIo (by rw [hs.2.1.1]; decide)).trans (h.1 k)
  have e2 : ∀ f ∈ MF, (fun f => haI (CU H K V W) (hfR (CU H K V W) f x)) f = A f := by
    intro f hf
    show haI (CU H K V W) (hfR H f x) = A f
    rw [CU_aIo (by rw [(hs.2.2 f hf).1]; decide)]
    exact h.2 f hf
  rw [e1, MU_cg e2] at e
  exact e
theorem MVal.mu (hs : SHm H K x) : MVal (MU H x I A) x I A := ⟨fun k => MU_fI H x I A k, fun f hf => MU_aI hs.1 I A hf⟩
theorem mu_z {z : Nat} (hs : SHm H K x) (hz' : K z ≠ 700) : (∀ f, hfI (MU H x I A) f z = hfI H f z) ∧ haI (MU H x I A) z = haI H z := by
  constructor
  · intro f
    show (if z = x then I f else H.1 f z) = _
    rw [if_neg (fun e => hz' (by rw [e]; exact hs.2.1.1))]; rfl
  · show (match MF.find? (fun f => z == H.2.1 f x) with | some f => A f | none => H.2.2.1 z) = _
    cases hq : MF.find? (fun f => z == H.2.1 f x) with
    | none => rfl
    | some q =>
      have hbq := List.find?_some hq
      have e1 : z = hfR H q x := eq_of_beq hbq
      exact absurd (by rw [e1]; exact (hs.2.2 q (List.mem_of_find?_eq_some hq)).1) hz'
theorem mu_pI {p q f : Nat} (hs : SHm H K x) (hp : PQ H K p q) : pI (MU H x I A) p f = pI H p f := (mu_z hs (by rw [hp.1.2.1]; have := hp.1.2.2; omega)).1 f
theorem mu_pA {p q f : Nat} (hs : SHm H K x) (hp : PQ H K p q) (hf : f59 f) : pA (MU H x I A) p f = pA H p f := by
  have q4 := hp.1.2.2
  refine (mu_z hs ?_).2
  show K (hfR H f p) ≠ 700
  rw [(hp.kf hf).1]
  rcases hf with rfl | rfl | rfl | rfl | rfl <;> omega
theorem STm.mu (hs : SHm H K x) (h : STm H K) : STm (MU H x I A) K := by
  obtain ⟨⟨⟨a1, a2⟩, ⟨b1, b2⟩, ⟨c1, c2⟩⟩, h2⟩ := h
  refine ⟨⟨⟨a1, fun k hk => ?_⟩, ⟨b1, fun k hk => ?_⟩, ⟨c1, fun k hk => ?_⟩⟩, h2⟩
  · show haI (MU H x I A) (hfR H 9001 0) k = _
    rw [(mu_z hs (by rw [h2 9001 (by decide)]; decide)).2]; exact a2 k hk
  · show haI (MU H x I A) (hfR H 9002 0) k = _
    rw [(mu_z hs (by rw [h2 9002 (by decide)]; decide)).2]; exact b2 k hk
  · show haI (MU H x I A) (hfR H 9003 0) k = _
    rw [(mu_z hs (by rw [h2 9003 (by decide)]; decide)).2]; exact c2 k hk
theorem SET.mu {p q : Nat} (h : SET H p) (hs : SHm H K x) (hp : PQ H K p q) : SET (MU H x I A) p := by
  unfold SET
  rw [mu_pI hs hp, mu_pA hs hp (by decide), mu_pA hs hp (by decide)]
  exact h
theorem SHP.mu (h : SHP H K y x n cm) : SHP (MU H x I A) K y x n cm := by
  obtain ⟨h1, h2, h3, h4, h5, h6⟩ := h
  refine ⟨h1, h2.mu h4, ?_, h4, h5.mu h4 h1.pl0, fun k hk => (h6 k hk).mu h4 (h1.ips k hk)⟩
  show (pI (MU H x I A) (hfR H 604 y) 102 = nI n ∧ n ≤ 8) ∧ (pI (MU H x I A) (hfR H 604 y) 104 = nI cm ∧ cm ≤ 4)
  rw [mu_pI h4 h1.pl0, mu_pI h4 h1.pl0]
  exact h3
end Q1
/-- the State s is the cells a -/
def eqS (V W : Nat → Nat → Int32) (s : Nat) (a : Nat → Int32) : Prop := (∀ j, j < 8 → W (100 + s) j = a j) ∧ (∀ c, c < 4 → W (200 + s) c = a (8 + c)) ∧ V 502 (10 + s) = a 12 ∧ V 503 (10 + s) = a 13
/-- the plan p is what the reference has -/
def PLE (H : hp) (p cm : Nat) (re ra ru : Int32) (on ki ha : Nat → Int32) : Prop := (pI H p 103 = re ∧ pI H p 100 = ra ∧ pI H p 101 = ru) ∧ (∀ j, j < 8 → pA H p 106 j = on j) ∧ (∀ c, c < cm → pA H p 108 c = ki c ∧ pA H p 109 c = ha c)
def STE (V W : Nat → Nat → Int32) (A : Nat → Nat → Int32) : Prop := eqS V W 0 (A 715) ∧ ∀ i, i < 24 → eqS V W (1 + i) (fun j => A 729 (14 * i + j))
def MISC (V W : Nat → Nat → Int32) (I : Nat → Int32) (A : Nat → Nat → Int32) (tm : Nat) (rs : Nat → Option Nat) : Prop := (V 607 1 = I 728 ∧ V 608 1 = I 727 ∧ V 202 9 = I 704 ∧ V 602 1 = I 706 ∧ V 603 1 = I 700 ∧ V 1 3 = I 737) ∧ W 4 = A 705 ∧ (∀ j, j < tm → W 5 j = A 738 j) ∧ (∀ r, r < 8 → V 302 (310 + r) = A 701 r) ∧ (∀ r, r < 8 → ∀ s, rs r = some s → V 301 (310 + r) = A 702 r ∧ ∀ j, j < s → W (300 + r) j = A 703 (40 * r + j))
/-- bounds of a State: n BLOCKs, cm clerks, no more than L lines each -/
def WS (n cm L : Nat) (a : Nat → Int32) : Prop := (∀ j, j < 8 → ∃ c, c ≤ 30 ∧ a j = nI c ∧ (n ≤ j → c = 0)) ∧ (∀ c, c < 4 → ∃ l, l ≤ L ∧ a (8 + c) = nI l ∧ (cm ≤ c → l = 0)) ∧ ∃ dd, dd ≤ 999 ∧ a 13 = nI dd
/-- bounds of a plan -/
def WP (n cm : Nat) (ra ru : Int32) (ki ha : Nat → Int32) : Prop := (0 < n → ∃ r, 1 ≤ r ∧ r ≤ 9 ∧ ra = nI r) ∧ (∃ u, u ≤ 10 ∧ ru = nI u) ∧ ∀ c, c < cm → 0 < n ∧ (∃ k, 1 ≤ k ∧ k ≤ 5 ∧ ki c = nI k) ∧ ∃ hd, 1 ≤ hd ∧ hd ≤ 9 ∧ ha c = nI hd
def IMk (H : hp) (V W : Nat → Nat → Int32) (A : Nat → Nat → Int32) (q k L : Nat) : Prop := ∃ n cm, Pn H q n cm ∧ (A 732 (5 * k) = nI n ∧ 0 < n) ∧ A 732 (5 * k + 2) = nI cm ∧ PLE H q cm (A 732 (5 * k + 1)) (A 732 (5 * k + 3)) (A 732 (5 * k + 4)) (fun j => A 733 (8 * k + j)) (fun c => A 735 (4 * k + c)) (fun c => A 734 (4 * k + c)) ∧ eqS V W (25 + k) (fun j => A 736 (14 * k + j)) ∧ WS n cm L (fun j => A 736 (14 * k + j)) ∧ WP n cm (A 732 (5 * k + 3)) (A 732 (5 * k + 4)) (fun c => A 735 (4 * k + c)) (fun c => A 734 (4 * k + c))
def IME (H : hp) (y : Nat) (V W : Nat → Nat → Int32) (A : Nat → Nat → Int32) (L : Nat) : Prop := ∀ k, k < 2 → (A 731 k = 0 → pI H (ip H y k) 102 = 0) ∧ (A 731 k ≠ 0 → IMk H V W A (ip H y k) k L)
def BND (I : Nat → Int32) (A : Nat → Nat → Int32) (n cm at' am L : Nat) : Prop := WS n cm L (A 715) ∧ (∀ k, k < am → WS n cm L (fun j => A 729 (14 * ((at' + 23 - k) % 24) + j))) ∧ WP n cm (I 710) (I 711) (A 714) (A 713)
def RD (H : hp) (K : Nat → Nat) (V W : Nat → Nat → Int32) (y x : Nat) (I : Nat → Int32) (A : Nat → Nat → Int32) (n cm at' am by' tm : Nat) (rs : Nat → Option Nat) (t : Nat) : Prop :=
  SHP H K y x n cm ∧ MIn I n cm at' am by' tm ∧ RIn A rs ∧ PLE H (hfR H 604 y) cm (I 708) (I 710) (I 711) (A 712) (A 714) (A 713) ∧ STE V W A ∧ MISC V W I A tm rs ∧ IME H y V W A (30 * t) ∧ BND I A n cm at' am (30 * t)
def RDx (H : hp) (K : Nat → Nat) (V W : Nat → Nat → Int32) (y x : Nat) (I : Nat → Int32) (A : Nat → Nat → Int32) (t : Nat) : Prop := ∃ n cm at' am by' tm rs, RD H K V W y x I A n cm at' am by' tm rs t
def INV (y x t : Nat) (h : hp) : Prop := ∃ H K V W I A, h = CU H K V W ∧ MVal H x I A ∧ RDx H K V W y x I A t
section Q2
variable {H : hp} {K : Nat → Nat} {V W : Nat → Nat → Int32} {y x n cm at' am by' tm t : Nat} {I : Nat → Int32} {A : Nat → Nat → Int32} {rs : Nat → Option Nat}
theorem PLE.mu {p q : Nat} {re ra ru : Int32} {on ki ha : Nat → Int32} {I' : Nat → Int32} {A' : Nat → Nat → Int32} (hs : SHm H K x) (hp : PQ H K p q) (h : PLE H p cm re ra ru on ki ha) : PLE (MU H x I' A') p cm re ra ru on ki ha := by
  unfold PLE
  rw [mu_pI hs hp, mu_pI hs hp, mu_pI hs hp, mu_pA hs hp (by decide), mu_pA hs hp (by decide), mu_pA hs hp (by decide)]
  exact h
theorem Pn.mu {p q : Nat} {I' : Nat → Int32} {A' : Nat → Nat → Int32} (hs : SHm H K x) (hp : PQ H K p q) (h : Pn H p n cm) : Pn (MU H x I' A') p n cm := by
  unfold Pn
  rw [mu_pI hs hp, mu_pI hs hp]
  exact h
theorem RD.mu {I' : Nat → Int32} {A' : Nat → Nat → Int32} (h : RD H K V W y x I A n cm at' am by' tm rs t) : RD (MU H x I' A') K V W y x I A n cm at' am by' tm rs t := by
  obtain ⟨h1, h2, h3, h4, h5, h6, h7, h8⟩ := h
  have hs := h1.2.2.2.1
  refine ⟨h1.mu, h2, h3, h4.mu hs h1.1.pl0, h5, h6, fun k hk => ⟨fun e => (mu_pI hs (h1.1.ips k hk)).trans ((h7 k hk).1 e), fun hi => ?_⟩, h8⟩
  have hp := h1.1.ips k hk
  obtain ⟨n', cm', x1, x2, x3, x4, x5⟩ := (h7 k hk).2 hi
  exact ⟨n', cm', x1.mu hs hp, x2, x3, x4.mu hs hp, x5⟩
/-- what both calls come to -/
def Both (mc ms : Nat) (y1 y2 : MI) (args : List pv) (yy xx : Nat) (h : hp) (Q : hp → Prop) : Prop := ∀ kk1 : Rt, (∀ (v : Int32) h1, (∀ kk2 : Rt, (∀ h2, Q h2 → kk2 (some (.inl v)) h2) → CL 20 y2 0 0 (.inr (.inr (8, xx)) :: args) h1 kk2) → kk1 (some (.inl v)) h1) → CL 20 y1 mc ms (.inr (.inr (7, yy)) :: args) h kk1
/-- the class's answer v at V', W'; the reference's then -/
theorem gen {H' : hp} {K' : Nat → Nat} {V' W' : Nat → Nat → Int32} {y2 : MI} {args : List pv} {kk1 : Rt} {v : Int32} (hmv : MVal H' x I A) (hsm : SHm H' K' x) (hk1 : ∀ (v : Int32) h1, (∀ kk2 : Rt, (∀ h2, INV y x (t + 1) h2 → kk2 (some (.inl v)) h2) → CL 20 y2 0 0 (.inr (.inr (8, x)) :: args) h1 kk2) → kk1 (some (.inl v)) h1)
    (hm : ∀ kk2 : Rt, (∀ I' A', RDx H' K' V' W' y x I' A' (t + 1) → kk2 (some (.inl v)) (MU (CU H' K' V' W') x I' A')) → CL 20 y2 0 0 (.inr (.inr (8, x)) :: args) (MU (CU H' K' V' W') x I A) kk2) : kk1 (some (.inl v)) (CU H' K' V' W') := by
  refine hk1 v _ (fun kk2 hk2 => ?_)
  have e := hmv.cu (V := V') (W := W') hsm
  rw [← e]
  refine hm kk2 (fun I' A' hR => hk2 _ ?_)
  refine ⟨MU H' x I' A', K', V', W', I', A', ?_, MVal.mu hsm, ?_⟩
  · exact CU_MU (by rw [hsm.2.1.1]; decide) (fun f hf => by rw [(hsm.2.2 f hf).1]; decide)
  · obtain ⟨n', cm', at2, am2, by2, tm2, rs2, hR⟩ := hR
    exact ⟨n', cm', at2, am2, by2, tm2, rs2, hR.mu⟩
/-- the same, for an answer that is a long -/
def BothL (mc ms : Nat) (y1 y2 : MI) (args : List pv) (yy xx : Nat) (h : hp) (Q : hp → Prop) : Prop := ∀ kk1 : Rt, (∀ (v : Int64) h1, (∀ kk2 : Rt, (∀ h2, Q h2 → kk2 (some (.inr (.inl v))) h2) → CL 20 y2 0 0 (.inr (.inr (8, xx)) :: args) h1 kk2) → kk1 (some (.inr (.inl v))) h1) → CL 20 y1 mc ms (.inr (.inr (7, yy)) :: args) h kk1
theorem genL {H' : hp} {K' : Nat → Nat} {V' W' : Nat → Nat → Int32} {y2 : MI} {args : List pv} {kk1 : Rt} {v : Int64} (hmv : MVal H' x I A) (hsm : SHm H' K' x) (hk1 : ∀ (v : Int64) h1, (∀ kk2 : Rt, (∀ h2, INV y x (t + 1) h2 → kk2 (some (.inr (.inl v))) h2) → CL 20 y2 0 0 (.inr (.inr (8, x)) :: args) h1 kk2) → kk1 (some (.inr (.inl v))) h1)
    (hm : ∀ kk2 : Rt, (∀ I' A', RDx H' K' V' W' y x I' A' (t + 1) → kk2 (some (.inr (.inl v))) (MU (CU H' K' V' W') x I' A')) → CL 20 y2 0 0 (.inr (.inr (8, x)) :: args) (MU (CU H' K' V' W') x I A) kk2) : kk1 (some (.inr (.inl v))) (CU H' K' V' W') := by
  refine hk1 v _ (fun kk2 hk2 => ?_)
  have e := hmv.cu (V := V') (W := W') hsm
  rw [← e]
  refine hm kk2 (fun I' A' hR => hk2 _ ?_)
  refine ⟨MU H' x I' A', K', V', W', I', A', ?_, MVal.mu hsm, ?_⟩
  · exact CU_MU (by rw [hsm.2.1.1]; decide) (fun f hf => by rw [(hsm.2.2 f hf).1]; decide)
  · obtain ⟨n', cm', at2, am2, by2, tm2, rs2, hR⟩ := hR
    exact ⟨n', cm', at2, am2, by2, tm2, rs2, hR.mu⟩
theorem WS.mono {L L' : Nat} {a : Nat → Int32} (h : WS n cm L a) (hl : L ≤ L') : WS n cm L' a := ⟨h.1, fun c hc => by
  obtain ⟨l, l1, l2⟩ := h.2.1 c hc
  exact ⟨l, by omega, l2⟩, h.2.2⟩
theorem RD.t1 (h : RD H K V W y x I A n cm at' am by' tm rs t) : RD H K V W y x I A n cm at' am by' tm rs (t + 1) := by
  obtain ⟨h1, h2, h3, h4, h5, h6, h7, h8⟩ := h
  refine ⟨h1, h2, h3, h4, h5, h6, fun k hk => ⟨(h7 k hk).1, fun hi => ?_⟩, h8.1.mono (by omega), fun k hk => (h8.2.1 k hk).mono (by omega), h8.2.2⟩
  obtain ⟨n', cm', x1, x2, x3, x4, x5, x6, x7⟩ := (h7 k hk).2 hi
  exact ⟨n', cm', x1, x2, x3, x4, x5, x6.mono (by omega), x7⟩
theorem RD.ea {A' : Nat → Nat → Int32} (h : RD H K V W y x I A n cm at' am by' tm rs t) (e : EA A A') : RD H K V W y x I A' n cm at' am by' tm rs t := by
  obtain ⟨h1, h2, h3, h4, h5, h6, h7, h8⟩ := h
  have q : ∀ f, f ≠ 716 → f ≠ 730 → A' f = A f := e
  refine ⟨h1, h2, ?_, ?_, ?_, ?_, ?_, ?_⟩
  · unfold RIn; rw [q 701 (by decide) (by decide)]; exact h3
  · rw [q 712 (by decide) (by decide), q 714 (by decide) (by decide), q 713 (by decide) (by decide)]; exact h4
  · unfold STE; rw [q 715 (by decide) (by decide), q 729 (by decide) (by decide)]; exact h5
  · unfold MISC; rw [q 705 (by decide) (by decide), q 738 (by decide) (by decide), q 701 (by decide) (by decide), q 702 (by decide) (by decide), q 703 (by decide) (by decide)]; exact h6
  · unfold IME IMk; rw [q 731 (by decide) (by decide), q 732 (by decide) (by decide), q 733 (by decide) (by decide), q 734 (by decide) (by decide), q 735 (by decide) (by decide), q 736 (by decide) (by decide)]; exact h7
  · unfold BND; rw [q 715 (by decide) (by decide), q 729 (by decide) (by decide), q 714 (by decide) (by decide), q 713 (by decide) (by decide)]; exact h8
theorem RD.toX (h : RD H K V W y x I A n cm at' am by' tm rs t) : RDx H K V W y x I A t := ⟨n, cm, at', am, by', tm, rs, h⟩
/-- cells that nobody sees -/
theorem RD.ve {V' W' : Nat → Nat → Int32} (h : RD H K V W y x I A n cm at' am by' tm rs t) (e : VE V V') (w : WE W W') : RD H K V' W' y x I A n cm at' am by' tm rs t := by
  obtain ⟨h1, h2, h3, h4, h5, h6, h7, h8⟩ := h
  have eS : ∀ s a, s < 27 → eqS V W s a → eqS V' W' s a := by
    intro s a hs q
    unfold eqS
    rw [w (100 + s) (by omega) (by omega) (by omega) (by omega) (by omega) (by omega) (by omega), w (200 + s) (by omega) (by omega) (by omega) (by omega) (by omega) (by omega) (by omega), e 502 (10 + s) (by omega) (by omega) (by omega), e 503 (10 + s) (by omega) (by omega) (by omega)]
    exact q
  refine ⟨h1, h2, h3, h4, ⟨eS 0 _ (by omega) h5.1, fun i hi => eS (1 + i) _ (by omega) (h5.2 i hi)⟩, ?_, fun k hk => ⟨(h7 k hk).1, fun hi => ?_⟩, h8⟩
  · obtain ⟨⟨m1, m2, m3, m4, m5, m6⟩, m7, m8, m8b, m9⟩ := h6
    unfold MISC
    rw [e 607 1 (by decide) (by decide) (by decide), e 608 1 (by decide) (by decide) (by decide), e 202 9 (by decide) (by decide) (by decide), e 602 1 (by decide) (by decide) (by decide), e 603 1 (by decide) (by decide) (by decide), e 1 3 (by decide) (by decide) (by decide), w 4 (by decide) (by decide) (by decide) (by decide) (by decide) (by decide) (by decide), w 5 (by decide) (by decide) (by decide) (by decide) (by decide) (by decide) (by decide)]
    refine ⟨⟨m1, m2, m3, m4, m5, m6⟩, m7, m8, fun r hr => by rw [e 302 (310 + r) (by omega) (by omega) (by omega)]; exact m8b r hr, fun r hr s hs => ?_⟩
    rw [e 301 (310 + r) (by omega) (by omega) (by omega), w (300 + r) (by omega) (by omega) (by omega) (by omega) (by omega) (by omega) (by omega)]
    exact m9 r hr s hs
  · obtain ⟨n', cm', x1, x2, x3, x4, x5, x6⟩ := (h7 k hk).2 hi
    exact ⟨n', cm', x1, x2, x3, x4, eS (25 + k) _ (by omega) x5, x6⟩
end Q2
