/-! ===== the relation over plans that become others ===== -/
section Q13b
variable {H : hp} {K : Nat → Nat} {V W : Nat → Nat → Int32} {y x n cm p q o q' : Nat} {I : Nat → Int32} {A : Nat → Nat → Int32} {P : Nat → Int32} {B : Nat → Nat → Int32}
theorem MVal.rp (h : MVal H x I A) (hs : SHm H K x) (hp : PQ H K p q) : MVal (RP H p P B) x I A := by
  have q4 := hp.1.2.2
  refine ⟨fun k => ((RP_z hp (by rw [hs.2.1.1]; omega) (by rw [hs.2.1.1]; omega)).1 k).trans (h.1 k), fun f hf => ?_⟩
  have k7 := (hs.2.2 f hf).1
  show haI (RP H p P B) (hfR H f x) = A f
  rw [(RP_z hp (by rw [k7]; omega) (by rw [k7]; omega)).2]
  exact h.2 f hf
theorem STm.rp (h : STm H K) (hp : PQ H K p q) : STm (RP H p P B) K := by
  have q4 := hp.1.2.2
  obtain ⟨⟨⟨a1, a2⟩, ⟨b1, b2⟩, ⟨c1, c2⟩⟩, h2⟩ := h
  have e : ∀ f, (f = 9001 ∨ f = 9002 ∨ f = 9003) → haI (RP H p P B) (hfR H f 0) = haI H (hfR H f 0) := fun f hf => (RP_z hp (by rw [h2 f hf]; omega) (by rw [h2 f hf]; omega)).2
  refine ⟨⟨⟨a1, fun k hk => ?_⟩, ⟨b1, fun k hk => ?_⟩, ⟨c1, fun k hk => ?_⟩⟩, h2⟩
  · show haI (RP H p P B) (hfR H 9001 0) k = _
    rw [e 9001 (by decide)]; exact a2 k hk
  · show haI (RP H p P B) (hfR H 9002 0) k = _
    rw [e 9002 (by decide)]; exact b2 k hk
  · show haI (RP H p P B) (hfR H 9003 0) k = _
    rw [e 9003 (by decide)]; exact c2 k hk
theorem rp_pI (hp : PQ H K p q) (ho : PQ H K o q') (hne : q ≠ q') (f : Nat) : pI (RP H p P B) o f = pI H o f := (RP_o hp ho hne).1 f
theorem rp_pA (hp : PQ H K p q) (ho : PQ H K o q') (hne : q ≠ q') {f : Nat} (hf : f59 f) : pA (RP H p P B) o f = pA H o f := (RP_o hp ho hne).2 f hf
theorem SET.rpo (h : SET H o) (hp : PQ H K p q) (ho : PQ H K o q') (hne : q ≠ q') : SET (RP H p P B) o := by
  unfold SET
  rw [rp_pI hp ho hne, rp_pA hp ho hne (by decide), rp_pA hp ho hne (by decide)]
  exact h
theorem Pn.rpo (h : Pn H o n cm) (hp : PQ H K p q) (ho : PQ H K o q') (hne : q ≠ q') : Pn (RP H p P B) o n cm := by
  unfold Pn
  rw [rp_pI hp ho hne, rp_pI hp ho hne]
  exact h
theorem PLE.rpo {re ra ru : Int32} {on ki ha : Nat → Int32} (h : PLE H o cm re ra ru on ki ha) (hp : PQ H K p q) (ho : PQ H K o q') (hne : q ≠ q') : PLE (RP H p P B) o cm re ra ru on ki ha := by
  unfold PLE
  rw [rp_pI hp ho hne, rp_pI hp ho hne, rp_pI hp ho hne, rp_pA hp ho hne (by decide), rp_pA hp ho hne (by decide), rp_pA hp ho hne (by decide)]
  exact h
theorem rq_pI (f : Nat) : pI (RP H p P B) p f = P f := RP_p f
theorem rq_pA (hp : PQ H K p q) {f : Nat} (hf : f59 f) : pA (RP H p P B) p f = B f := RP_B hp hf
theorem SET.rpn (hp : PQ H K p q) (h : ∀ n, P 102 = nI n → n ≤ 8 → ∀ j, j < 8 → B 107 j = lyF (B 106) n j) : SET (RP H p P B) p := by
  unfold SET
  rw [rq_pI, rq_pA hp (by decide), rq_pA hp (by decide)]
  exact h
theorem PEQ.set (hE : PEQ H o P B) (h : SET H o) : ∀ n, P 102 = nI n → n ≤ 8 → ∀ j, j < 8 → B 107 j = lyF (B 106) n j := by
  intro n e n8 j hj
  rw [(hE.2.1 j hj).2.2, h n (hE.1.2.2.1.symm.trans e) n8 j hj]
  exact congrFun (lyF_cg n (fun i hi => (hE.2.1 i (by omega)).2.1.symm)) j
theorem PEQ.pn (hE : PEQ H o P B) (h : Pn H o n cm) : Pn (RP H p P B) p n cm := by
  unfold Pn
  rw [rq_pI, rq_pI, hE.1.2.2.1, hE.1.2.2.2.2]
  exact h
theorem PEQ.ple {re ra ru : Int32} {on ki ha : Nat → Int32} (hE : PEQ H o P B) (hp : PQ H K p q) (c4 : cm ≤ 4) (h : PLE H o cm re ra ru on ki ha) : PLE (RP H p P B) p cm re ra ru on ki ha := by
  unfold PLE
  rw [rq_pI, rq_pI, rq_pI, rq_pA hp (by decide), rq_pA hp (by decide), rq_pA hp (by decide), hE.1.1, hE.1.2.1, hE.1.2.2.2.1]
  refine ⟨h.1, fun j hj => ?_, fun c hc => ?_⟩
  · rw [(hE.2.1 j hj).2.1]; exact h.2.1 j hj
  · rw [(hE.2.2 c (by omega)).1, (hE.2.2 c (by omega)).2]; exact h.2.2 c hc
end Q13b
