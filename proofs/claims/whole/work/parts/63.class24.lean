/-! ===== the class: the search ===== -/
/-- what a try leaves -/
def TBp (on : Nat → Int32) (n m : Nat) (nd : Nat → Int32) (k dp : Nat) (V W : Nat → Nat → Int32) (w fw : Nat → Int32) (V' W' : Nat → Nat → Int32) : Prop :=
  V' = up2 V 405 2 (tbF on n m nd k (W 128) w (V 405 2, fw)).1 ∧ (∀ t, t ≠ 7 → t ≠ 8 → W' t = W t) ∧ (∀ j, j < dp → W' 7 j = w j) ∧ (∀ j, j < m → W' 8 j = (tbF on n m nd k (W 128) w (V 405 2, fw)).2 j)
section C29
variable {d z p n cm m : Nat} {H : hp} {K : Nat → Nat} {nd : Nat → Int32}
theorem tb_no {on a w fw : Nat → Int32} {x : Int32} (h : ¬ x < cnP on n a) : ∀ k, tbF on n m nd k a w (x, fw) = (x, fw)
  | 0 => if_neg h
  | _ + 1 => if_neg h
set_option maxRecDepth 20000 in
theorem c_tryBlocks (hK : KI K) (hE : SE H K (z + 1)) (hP : PP H K p) (hn : Pn H p n cm) (hm : m ≤ 4) : ∀ (k dp : Nat) (dv : Int32) (V W : Nat → Nat → Int32) (w fw : Nat → Int32) (kk : Rt), dv = nI dp → dp + k = m → V 404 2 = nI m → (∀ j, j < m → W 6 j = nd j) → (∀ j, j < dp → W 7 j = w j) → (∀ j, j < m → W 8 j = fw j) → (∀ V' W', TBp (pA H p 106) n m nd k dp V W w fw V' W' → kk none (CU H K V' W')) → CL (d + 2 + k) mX6_tryBlocks 0 0 [.inr (.inr (2, p)), .inr (.inr (5, z + 1)), .inl dv] (CU H K V W) kk
  | 0, dp, dv, V, W, w, fw, kk, edv, hdk, h5, h6, h7, h8, hk => by
    subst edv
    have e : dp = m := by omega
    subst e
    have e2 := hE.1.2
    have e6 : hfI (CU H K V W) 405 (z + 1) = V 405 2 := CU_fI e2 (by decide)
    have e5 : hfI (CU H K V W) 404 (z + 1) = nI dp := (CU_fI e2 (by decide)).trans h5
    refine mw T_X6_tryBlocks (fun Wm go => go (cut1 14) 60 0 _ _ _ _ _ ?_)
    refine nz hE.2.1.1.1 ?_
    refine c_withChalk rfl hE.2.1 ?_
    refine nz hP.1.1 ?_
    refine c_standing rfl hP hn ?_
    rw [stC_e hn.1.2]
    refine c_bitCount (in_st hn.1.2 _ _) ?_
    refine go cut0 60 14 _ _ _ _ _ ?_
    refine And.intro (fun c => ?_) (fun c => ?_)
    · have c : hfI (CU H K V W) 405 (z + 1) < cnP (pA H p 106) n (W 128) := c
      rw [e6] at c
      refine And.intro (fun c2 => ?_) (fun c2 => ?_)
      · have c2 : nI dp < hfI (CU H K V W) 404 (z + 1) := c2
        rw [e5] at c2
        exact absurd c2 Int32.lt_irrefl
      · have et : tbF (pA H p 106) n dp nd 0 (W 128) w (V 405 2, fw) = (cnP (pA H p 106) n (W 128), w) := if_pos c
        refine c_keepWay hK hE h5 hm ?_
        refine hk _ _ ⟨?_, fun t _ t8 => va_up_ne _ _ t8, fun j hj => ?_, fun j hj => ?_⟩
        · rw [et]
        · rw [va_up_ne _ _ (by decide)]; exact h7 j hj
        · rw [va_up_self, et]
          exact (cpy0 hj).trans (h7 j hj)
    · have c : ¬ hfI (CU H K V W) 405 (z + 1) < cnP (pA H p 106) n (W 128) := c
      rw [e6] at c
      refine hk V W ⟨?_, fun _ _ _ => rfl, h7, fun j hj => ?_⟩
      · rw [tb_no c]
        exact (up2_id V 405 2 _ rfl).symm
      · rw [tb_no c]
        exact h8 j hj
  | k + 1, dp, dv, V, W, w, fw, kk, edv, hdk, h5, h6, h7, h8, hk => by
    subst edv
    have e2 := hE.1.2
    have n8 := hn.1.2
    have hE' := hE
    obtain ⟨-, e3, ⟨n1, n2, n3⟩, ⟨y1, y2, y3⟩, -⟩ := hE
    have e3' := e3
    have e31 := e3.1.1
    obtain ⟨-, ⟨c1, c2, c3⟩, -⟩ := e3
    have z42 : ∀ V W, hfR (CU H K V W) 402 (z + 1) = hfR H 402 (z + 1) := fun _ _ => rfl
    have hd : m - (k + 1) = dp := by omega
    have e6 : hfI (CU H K V W) 405 (z + 1) = V 405 2 := CU_fI e2 (by decide)
    have e5 : hfI (CU H K V W) 404 (z + 1) = nI m := (CU_fI e2 (by decide)).trans h5
    refine mw T_X6_tryBlocks (fun Wm go => go (cut1 14) 60 0 _ _ _ _ _ ?_)
    refine nz e31 ?_
    refine c_withChalk rfl e3' ?_
    refine nz hP.1.1 ?_
    refine c_standing rfl hP hn ?_
    rw [stC_e hn.1.2]
    refine c_bitCount (in_st hn.1.2 _ _) ?_
    obtain ⟨st, hst⟩ : ∃ st : Int32, st = cnP (pA H p 106) n (W 128) := ⟨_, rfl⟩
    refine wms (Wm := Wm) (L' := [some (.inr (.inr (2, p))), some (.inr (.inr (5, z + 1))), some (.inl (nI dp)), none, none, none, none]) (S' := [.inl st]) (h' := CU H K V W) ?_ rfl (by rw [hst]; rfl) rfl
    refine go (cut2 24 23) 60 14 _ _ _ _ _ ?_
    refine And.intro (fun c => ?_) (fun c => ?_)
    rotate_left
    · have c : ¬ hfI (CU H K V W) 405 (z + 1) < st := c
      rw [e6, hst] at c
      refine go cut0 20 23 _ _ _ _ _ ?_
      refine hk V W ⟨?_, fun _ _ _ => rfl, h7, fun j hj => ?_⟩
      · rw [tb_no c]
        exact (up2_id V 405 2 _ rfl).symm
      · rw [tb_no c]
        exact h8 j hj
    have c : hfI (CU H K V W) 405 (z + 1) < st := c
    rw [e6, hst] at c
    obtain ⟨F, hF0⟩ : ∃ F : Nat → Int32 × (Nat → Int32) → Int32 × (Nat → Int32), F = fun b r => if W 128 b < nd dp then r else tbF (pA H p 106) n m nd k (upd (W 128) b (W 128 b - nd dp)) (upd w dp (nI b)) r := ⟨_, rfl⟩
    have hF : tbF (pA H p 106) n m nd (k + 1) (W 128) w (V 405 2, fw) = iterB F n (V 405 2, fw) := by
      rw [hF0, ← hd]; exact if_pos c
    have hk : ∀ V' W', V' = up2 V 405 2 (iterB F n (V 405 2, fw)).1 → (∀ t, t ≠ 7 → t ≠ 8 → W' t = W t) → (∀ j, j < dp → W' 7 j = w j) → (∀ j, j < m → W' 8 j = (iterB F n (V 405 2, fw)).2 j) → kk none (CU H K V' W') := by
      intro V' W' a1 a2 a3 a4
      refine hk V' W' ⟨?_, a2, a3, ?_⟩
      · rw [hF]; exact a1
      · rw [hF]; exact a4
    clear hst c
    refine go (cut1 58) 80 24 _ _ _ _ _ ?_
    refine And.intro (fun c => ?_) (fun c => ?_)
    rotate_left
    · have c : ¬ nI dp < hfI (CU H K V W) 404 (z + 1) := c
      rw [e5] at c
      have := (nI_leI (a := m) (b := dp) (by omega) (by omega)).mp (Int32.not_lt.mp c)
      omega
    refine cld n1 n2 (by decide) n3 (by omega) dp rfl (by omega) ?_
    refine nz e31 ?_
    rw [h6 dp (by omega)]
    obtain ⟨r0, hr0⟩ : ∃ r0 : Int32 × (Nat → Int32), r0 = (V 405 2, fw) := ⟨_, rfl⟩
    rw [← hr0] at hk
    refine upto (n := n) (P := fun b => ∀ Vb Wb, Vb = up2 V 405 2 (iterB F b r0).1 → (∀ t, t ≠ 7 → t ≠ 8 → Wb t = W t) → (∀ j, j < dp → Wb 7 j = w j) → (∀ j, j < m → Wb 8 j = (iterB F b r0).2 j) → Wm 58 [some (.inr (.inr (2, p))), some (.inr (.inr (5, z + 1))), some (.inl (nI dp)), some (.inl st), some (.inl (nd dp)), some (.inr (.inr (20, hfR H 500 (hfR H 400 (z + 1))))), some (.inl (nI b))] [] (CU H K Vb Wb) 0 0) (fun b hb ih Vb Wb v1 w1 w2 w3 => ?_) 0 (Nat.zero_le _) V W ?_ (fun _ _ _ => rfl) h7 ?_
    · refine go (cut3 58 95 113) 80 58 _ _ _ _ _ ?_
      refine nz hP.1.1 ?_
      have en : hfI (CU H K Vb Wb) 102 p = nI n := (CU_fIo hP.1.2).trans hn.1.1
      refine icg rfl en (by omega) (by omega) (fun c => ?_) (fun c => ?_)
      · have e : b = n := by omega
        subst e
        exact hk Vb Wb v1 w1 w2 w3
      · have ih := ih c
        have hs : iterB F (b + 1) r0 = F b (iterB F b r0) := rfl
        rw [hs] at ih
        generalize iterB F b r0 = r at *
        have w128 : Wb 128 = W 128 := w1 128 (by decide) (by decide)
        have next : ∀ V3 W3, V3 = up2 V 405 2 (F b r).1 → (∀ t, t ≠ 7 → t ≠ 8 → W3 t = W t) → (∀ j, j < dp → W3 7 j = w j) → (∀ j, j < m → W3 8 j = (F b r).2 j) → Wm 113 [some (.inr (.inr (2, p))), some (.inr (.inr (5, z + 1))), some (.inl (nI dp)), some (.inl st), some (.inl (nd dp)), some (.inr (.inr (20, hfR H 500 (hfR H 400 (z + 1))))), some (.inl (nI b))] [] (CU H K V3 W3) 0 0 := by
          intro V3 W3 a1 a2 a3 a4
          have e := ih V3 W3 a1 a2 a3 a4
          rw [← nI_1] at e
          exact go (cut1 58) 20 113 _ _ _ _ _ e
        refine cld c1 c2 (by decide) c3 (by omega) b rfl (by omega) ?_
        rw [show Wb (100 + 28) = W 128 from w128]
        refine And.intro (fun c4 => ?_) (fun c4 => ?_)
        · have c4 : W 128 b < nd dp := c4
          have eF : F b r = r := by rw [hF0]; exact if_pos c4
          rw [eF] at next
          exact next Vb Wb v1 w1 w2 w3
        · have c4 : ¬ W 128 b < nd dp := c4
          refine cld c1 c2 (by decide) c3 (by omega) b rfl (by omega) ?_
          refine cst hK c1 c2 (by decide) c3 (by omega) b rfl (by omega) ?_
          refine cst hK (by rw [z42]; exact y1) (s := 7) (by rw [z42]; exact y2) (by decide) (m := 4) (by rw [z42]; exact y3) (by omega) dp rfl (by omega) ?_
          obtain ⟨a', ha'⟩ : ∃ a' : Nat → Int32, a' = upd (W 128) b (W 128 b - nd dp) := ⟨_, rfl⟩
          have fin103 : ∀ V3 W3, V3 = up2 V 405 2 (F b r).1 → W3 128 = a' → (∀ t, t ≠ 7 → t ≠ 8 → t ≠ 128 → W3 t = W t) → (∀ j, j < dp → W3 7 j = w j) → (∀ j, j < m → W3 8 j = (F b r).2 j) → Wm 103 [some (.inr (.inr (2, p))), some (.inr (.inr (5, z + 1))), some (.inl (nI dp)), some (.inl st), some (.inl (nd dp)), some (.inr (.inr (20, hfR H 500 (hfR H 400 (z + 1))))), some (.inl (nI b))] [] (CU H K V3 W3) 0 0 := by
            intro V3 W3 a1 a2 a3 a4 a5
            refine go (cut1 113) 40 103 _ _ _ _ _ ?_
            refine cld c1 c2 (by decide) c3 (by omega) b rfl (by omega) ?_
            refine cst hK c1 c2 (by decide) c3 (by omega) b rfl (by omega) ?_
            have back : upd (W3 128) b (W3 128 b + nd dp) = W 128 := by
              rw [a2, ha']
              funext j
              unfold upd
              by_cases q : j = b
              · rw [if_pos q, if_pos rfl, q, Int32.sub_add_cancel]
              · rw [if_neg q, if_neg q]
            refine next V3 _ a1 (fun t t7 t8 => ?_) (fun j hj => ?_) (fun j hj => ?_)
            · by_cases q : t = 128
              · subst q
                exact (va_up_self _ _ _).trans back
              · exact (va_up_ne _ _ q).trans (a3 t t7 t8 q)
            · exact (congrFun (va_up_ne _ _ (by decide)) j).trans (a4 j hj)
            · exact (congrFun (va_up_ne _ _ (by decide)) j).trans (a5 j hj)
          obtain ⟨W2, hW2⟩ : ∃ W2 : Nat → Nat → Int32, W2 = va_up (va_up Wb 128 (upd (Wb 128) b (Wb 128 b - nd dp))) 7 (upd (Wb 7) dp (nI b)) := ⟨_, rfl⟩
          have g128 : W2 128 = a' := by rw [hW2, va_up_ne _ _ (by decide), va_up_self, w128, ha']
          have go7 : ∀ t, t ≠ 7 → t ≠ 8 → t ≠ 128 → W2 t = W t := fun t t7 t8 t9 => by rw [hW2, va_up_ne _ _ t7, va_up_ne _ _ t9]; exact w1 t t7 t8
          have g7 : W2 7 = upd (Wb 7) dp (nI b) := by rw [hW2, va_up_self]
          have g8 : W2 8 = Wb 8 := by rw [hW2, va_up_ne _ _ (by decide), va_up_ne _ _ (by decide)]
          refine wmc (Wm := Wm) (h' := CU H K Vb W2) ?_ rfl ?_
          rotate_left
          · show CU H K Vb (va_up (va_up Wb 128 (upd (Wb 128) b (Wb 128 b - nd dp))) 7 (upd (va_up Wb 128 (upd (Wb 128) b (Wb 128 b - nd dp)) 7) dp (nI b))) = CU H K Vb W2
            rw [hW2, va_up_ne _ _ (show (7 : Nat) ≠ 128 by decide), w128]
          refine go (cut1 103) 40 95 _ _ _ _ _ ?_
          have eF : F b r = tbF (pA H p 106) n m nd k a' (upd w dp (nI b)) r := by
            rw [hF0]
            dsimp only
            rw [if_neg c4, ← ha']
          rw [eF] at fin103
          have eb : (Vb 405 2, r.2) = r := by rw [v1]; rw [up2_eq]
          refine c_tryBlocks hK hE' hP hn hm k (dp + 1) _ Vb W2 (upd w dp (nI b)) r.2 _ (nI_1 dp) (by omega) ?_ (fun j hj => ?_) (fun j hj => ?_) (fun j hj => ?_) (fun V' W' hT => ?_)
          · rw [v1, up2_nf (by decide)]; exact h5
          · rw [go7 6 (by decide) (by decide) (by decide)]; exact h6 j hj
          · rw [g7]
            unfold upd
            by_cases q : j = dp
            · rw [if_pos q, if_pos q]
            · rw [if_neg q, if_neg q]; exact w2 j (by omega)
          · rw [g8]; exact w3 j hj
          · obtain ⟨t1, t2, t3, t4⟩ := hT
            rw [eb, g128] at t1 t4
            refine fin103 V' W' ?_ ?_ (fun t a7 a8 a9 => ?_) (fun j hj => ?_) t4
            · rw [t1, v1, up2_uu]
            · rw [t2 128 (by decide) (by decide)]; exact g128
            · rw [t2 t a7 a8]; exact go7 t a7 a8 a9
            · rw [t3 j (by omega)]
              exact if_neg (by omega)
    · rw [hr0]
      exact (up2_id V 405 2 _ rfl).symm
    · rw [hr0]; exact h8
end C29
