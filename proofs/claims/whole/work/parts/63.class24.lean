/-! ===== the class: the search ===== -/
/-- what a try leaves -/
def TBp (on : Nat → Int32) (n m : Nat) (nd : Nat → Int32) (k dp : Nat) (V W : Nat → Nat → Int32) (w fw : Nat → Int32) (V' W' : Nat → Nat → Int32) : Prop :=
  V' = up2 V 406 2 (tbF on n m nd k (W 128) w (V 406 2, fw)).1 ∧ (∀ t, t ≠ 7 → t ≠ 8 → W' t = W t) ∧ (∀ j, j < dp → W' 7 j = w j) ∧ (∀ j, j < m → W' 8 j = (tbF on n m nd k (W 128) w (V 406 2, fw)).2 j)
section C29
variable {d z p n cm m : Nat} {H : hp} {K : Nat → Nat} {nd : Nat → Int32}
theorem c_sstandingE {D : Nat} {V W : Nat → Nat → Int32} {kk : Rt} (eD : D = d + 1) (hE : SE H K (z + 1)) (ep : hfR H 404 (z + 1) = p) (hP : PP H K p) (hn : Pn H p n cm) (hk : kk (some (.inl (bitsI (stC H p n W 28)))) (CU H K V W)) : CL D mX4_standing 0 0 [.inr (.inr (5, z + 1))] (CU H K V W) kk := by
  subst eD
  exact c_sstanding hE ep hP hn hk
set_option maxRecDepth 20000 in
theorem c_tryBlocks (hK : KI K) (hE : SE H K (z + 1)) (ep : hfR H 404 (z + 1) = p) (hP : PP H K p) (hn : Pn H p n cm) (hm : m ≤ 4) : ∀ (k dp : Nat) (dv : Int32) (V W : Nat → Nat → Int32) (w fw : Nat → Int32) (kk : Rt), dv = nI dp → dp + k = m → V 405 2 = nI m → (∀ j, j < m → W 6 j = nd j) → (∀ j, j < dp → W 7 j = w j) → (∀ j, j < m → W 8 j = fw j) → (∀ V' W', TBp (pA H p 106) n m nd k dp V W w fw V' W' → kk none (CU H K V' W')) → CL (d + 3 + k) mX6_tryBlocks 0 0 [.inr (.inr (5, z + 1)), .inl dv] (CU H K V W) kk
  | 0, dp, dv, V, W, w, fw, kk, edv, hdk, h5, h6, h7, h8, hk => by
    subst edv
    have e : dp = m := by omega
    subst e
    have e2 := hE.1.2
    refine mw T_X6_tryBlocks (fun Wm go => go cut0 60 0 _ _ _ _ _ ?_)
    refine And.intro (fun c => ?_) (fun c => ?_)
    · have c : nI dp < hfI (CU H K V W) 405 (z + 1) := c
      rw [CU_fI e2 (by decide), h5] at c
      exact absurd c Int32.lt_irrefl
    · refine c_keepWay hK hE ep hP hn h5 hm ?_
      refine hk _ _ ⟨rfl, fun t _ t8 => va_up_ne _ _ t8, fun j hj => ?_, fun j hj => ?_⟩
      · rw [va_up_ne _ _ (by decide)]; exact h7 j hj
      · rw [va_up_self]
        show va_cpy (W 7) (W 8) 0 0 dp j = w j
        unfold va_cpy
        rw [if_pos (by omega)]
        rw [← h7 j hj]
        congr 1
        omega
  | k + 1, dp, dv, V, W, w, fw, kk, edv, hdk, h5, h6, h7, h8, hk => by
    subst edv
    have e2 := hE.1.2
    have n8 := hn.1.2
    have hE' := hE
    obtain ⟨-, e3, ⟨n1, n2, n3⟩, ⟨y1, y2, y3⟩, -⟩ := hE
    have e31 := e3.1.1
    obtain ⟨-, ⟨c1, c2, c3⟩, -⟩ := e3
    have z42 : ∀ V W, hfR (CU H K V W) 402 (z + 1) = hfR H 402 (z + 1) := fun _ _ => rfl
    have hd : m - (k + 1) = dp := by omega
    obtain ⟨F, hF0⟩ : ∃ F : Nat → Int32 × (Nat → Int32) → Int32 × (Nat → Int32), F = fun b r => if W 128 b < nd dp then r else if r.1 < cnP (pA H p 106) n (upd (W 128) b (W 128 b - nd dp)) then tbF (pA H p 106) n m nd k (upd (W 128) b (W 128 b - nd dp)) (upd w dp (nI b)) r else r := ⟨_, rfl⟩
    have hF : tbF (pA H p 106) n m nd (k + 1) (W 128) w (V 406 2, fw) = iterB F n (V 406 2, fw) := by
      rw [hF0, ← hd]; rfl
    have hk : ∀ V' W', V' = up2 V 406 2 (iterB F n (V 406 2, fw)).1 → (∀ t, t ≠ 7 → t ≠ 8 → W' t = W t) → (∀ j, j < dp → W' 7 j = w j) → (∀ j, j < m → W' 8 j = (iterB F n (V 406 2, fw)).2 j) → kk none (CU H K V' W') := by
      intro V' W' a1 a2 a3 a4
      refine hk V' W' ⟨?_, a2, a3, ?_⟩
      · rw [hF]; exact a1
      · rw [hF]; exact a4
    refine mw T_X6_tryBlocks (fun Wm go => go (cut1 31) 80 0 _ _ _ _ _ ?_)
    refine And.intro (fun c => ?_) (fun c => ?_)
    rotate_left
    · have c : ¬ nI dp < hfI (CU H K V W) 405 (z + 1) := c
      rw [CU_fI e2 (by decide), h5] at c
      have := (nI_leI (a := m) (b := dp) (by omega) (by omega)).mp (Int32.not_lt.mp c)
      omega
    refine cld n1 n2 (by decide) n3 (by omega) dp rfl (by omega) ?_
    refine nz e31 ?_
    rw [h6 dp (by omega)]
    obtain ⟨r0, hr0⟩ : ∃ r0 : Int32 × (Nat → Int32), r0 = (V 406 2, fw) := ⟨_, rfl⟩
    rw [← hr0] at hk
    refine upto (n := n) (P := fun b => ∀ Vb Wb, Vb = up2 V 406 2 (iterB F b r0).1 → (∀ t, t ≠ 7 → t ≠ 8 → Wb t = W t) → (∀ j, j < dp → Wb 7 j = w j) → (∀ j, j < m → Wb 8 j = (iterB F b r0).2 j) → Wm 31 [some (.inr (.inr (5, z + 1))), some (.inl (nI dp)), some (.inl (nd dp)), some (.inr (.inr (20, hfR H 500 (hfR H 400 (z + 1))))), some (.inl (nI b))] [] (CU H K Vb Wb) 0 0) (fun b hb ih Vb Wb v1 w1 w2 w3 => ?_) 0 (Nat.zero_le _) V W ?_ (fun _ _ _ => rfl) h7 ?_
    · refine go (cut3 31 71 93) 80 31 _ _ _ _ _ ?_
      refine nz (by show hfR H 404 (z + 1) ≠ 0; rw [ep]; exact hP.1.1) ?_
      have en : hfI (CU H K Vb Wb) 102 (hfR (CU H K Vb Wb) 404 (z + 1)) = nI n := by
        show hfI (CU H K Vb Wb) 102 (hfR H 404 (z + 1)) = nI n
        rw [ep, CU_fIo hP.1.2]; exact hn.1.1
      refine icg rfl en (by omega) (by omega) (fun c => ?_) (fun c => ?_)
      · have e : b = n := by omega
        subst e
        exact hk Vb Wb v1 w1 w2 w3
      · have ih := ih c
        have hs : iterB F (b + 1) r0 = F b (iterB F b r0) := rfl
        rw [hs] at ih
        generalize iterB F b r0 = r at *
        have w128 : Wb 128 = W 128 := w1 128 (by decide) (by decide)
        have next : ∀ V3 W3, V3 = up2 V 406 2 (F b r).1 → (∀ t, t ≠ 7 → t ≠ 8 → W3 t = W t) → (∀ j, j < dp → W3 7 j = w j) → (∀ j, j < m → W3 8 j = (F b r).2 j) → Wm 93 [some (.inr (.inr (5, z + 1))), some (.inl (nI dp)), some (.inl (nd dp)), some (.inr (.inr (20, hfR H 500 (hfR H 400 (z + 1))))), some (.inl (nI b))] [] (CU H K V3 W3) 0 0 := by
          intro V3 W3 a1 a2 a3 a4
          have e := ih V3 W3 a1 a2 a3 a4
          rw [← nI_1] at e
          exact go (cut1 31) 20 93 _ _ _ _ _ e
        refine cld c1 c2 (by decide) c3 (by omega) b rfl (by omega) ?_
        rw [show Wb (100 + 28) = W 128 from w128]
        refine And.intro (fun c4 => ?_) (fun c4 => ?_)
        · have c4 : W 128 b < nd dp := c4
          have eF : F b r = r := by rw [hF0]; exact if_pos c4
          rw [eF] at next
          exact next Vb Wb v1 w1 w2 w3
        · have c4 : ¬ W 128 b < nd dp := c4
          refine cld c1 c2 (by decide) c3 (by omega) b rfl (by omega) ?_
          refine cst hK c1 c2 (by decide) c3 (by omega) b rfl (by omega) ?_
          refine cst hK (by rw [z42]; exact y1) (s := 7) (by rw [z42]; exact y2) (by decide) (m := 4) (by rw [z42]; exact y3) (by omega) dp rfl (by omega) ?_
          refine c_sstandingE (d := d + 2 + k) (show d + 3 + k = d + 2 + k + 1 by omega) hE' ep hP hn ?_
          obtain ⟨a', ha'⟩ : ∃ a' : Nat → Int32, a' = upd (W 128) b (W 128 b - nd dp) := ⟨_, rfl⟩
          have fin85 : ∀ V3 W3, V3 = up2 V 406 2 (F b r).1 → W3 128 = a' → (∀ t, t ≠ 7 → t ≠ 8 → t ≠ 128 → W3 t = W t) → (∀ j, j < dp → W3 7 j = w j) → (∀ j, j < m → W3 8 j = (F b r).2 j) → Wm 85 [some (.inr (.inr (5, z + 1))), some (.inl (nI dp)), some (.inl (nd dp)), some (.inr (.inr (20, hfR H 500 (hfR H 400 (z + 1))))), some (.inl (nI b))] [] (CU H K V3 W3) 0 0 := by
            intro V3 W3 a1 a2 a3 a4 a5
            refine go (cut1 93) 40 85 _ _ _ _ _ ?_
            refine cld c1 c2 (by decide) c3 (by omega) b rfl (by omega) ?_
            refine cst hK c1 c2 (by decide) c3 (by omega) b rfl (by omega) ?_
            have back : upd (W3 128) b (W3 128 b + nd dp) = W 128 := by
              rw [a2, ha']
              funext j
              unfold upd
              by_cases q : j = b
              · rw [if_pos q, if_pos rfl, q, Int32.sub_add_cancel]
              · rw [if_neg q, if_neg q]
            refine next V3 _ a1 (fun t t7 t8 => ?_) (fun j hj => ?_) (fun j hj => ?_)
            · by_cases q : t = 128
              · subst q
                exact (va_up_self _ _ _).trans back
              · exact (va_up_ne _ _ q).trans (a3 t t7 t8 q)
            · exact (congrFun (va_up_ne _ _ (by decide)) j).trans (a4 j hj)
            · exact (congrFun (va_up_ne _ _ (by decide)) j).trans (a5 j hj)
          obtain ⟨W2, hW2⟩ : ∃ W2 : Nat → Nat → Int32, W2 = va_up (va_up Wb 128 (upd (Wb 128) b (Wb 128 b - nd dp))) 7 (upd (Wb 7) dp (nI b)) := ⟨_, rfl⟩
          have g128 : W2 128 = a' := by rw [hW2, va_up_ne _ _ (by decide), va_up_self, w128, ha']
          have go7 : ∀ t, t ≠ 7 → t ≠ 8 → t ≠ 128 → W2 t = W t := fun t t7 t8 t9 => by rw [hW2, va_up_ne _ _ t7, va_up_ne _ _ t9]; exact w1 t t7 t8
          have g7 : W2 7 = upd (Wb 7) dp (nI b) := by rw [hW2, va_up_self]
          have g8 : W2 8 = Wb 8 := by rw [hW2, va_up_ne _ _ (by decide), va_up_ne _ _ (by decide)]
          refine wms (Wm := Wm) (L' := [some (.inr (.inr (5, z + 1))), some (.inl (nI dp)), some (.inl (nd dp)), some (.inr (.inr (20, hfR H 500 (hfR H 400 (z + 1))))), some (.inl (nI b))]) (S' := [.inl (cnP (pA H p 106) n a')]) (h' := CU H K Vb W2) ?_ rfl ?_ ?_
          rotate_left
          · show [Sum.inl (bitsI (stP (pA H p 106) (posB (va_up (va_up Wb 128 (upd (Wb 128) b (Wb 128 b - nd dp))) 7 (upd (va_up Wb 128 (upd (Wb 128) b (Wb 128 b - nd dp)) 7) dp (nI b)) 128)) n))] = _
            rw [va_up_ne _ _ (by decide), va_up_self, w128, ha']
          · show CU H K Vb (va_up (va_up Wb 128 (upd (Wb 128) b (Wb 128 b - nd dp))) 7 (upd (va_up Wb 128 (upd (Wb 128) b (Wb 128 b - nd dp)) 7) dp (nI b))) = CU H K Vb W2
            rw [hW2, va_up_ne _ _ (show (7 : Nat) ≠ 128 by decide), w128]
          refine go (cut1 85) 40 71 _ _ _ _ _ ?_
          have e6 : hfI (CU H K Vb W2) 406 (z + 1) = r.1 := by
            rw [CU_fI e2 (by decide), v1]; exact up2_eq
          refine And.intro (fun c5 => ?_) (fun c5 => ?_)
          · have c5 : cnP (pA H p 106) n a' ≤ hfI (CU H K Vb W2) 406 (z + 1) := c5
            rw [e6] at c5
            have eF : F b r = r := by
              rw [hF0]
              dsimp only
              rw [if_neg c4, ← ha', if_neg (Int32.not_lt.mpr c5)]
            rw [eF] at fin85
            refine fin85 Vb W2 v1 g128 go7 (fun j hj => ?_) (fun j hj => ?_)
            · rw [g7]
              exact (if_neg (by omega)).trans (w2 j hj)
            · rw [g8]; exact w3 j hj
          · have c5 : ¬ cnP (pA H p 106) n a' ≤ hfI (CU H K Vb W2) 406 (z + 1) := c5
            rw [e6] at c5
            have eF : F b r = tbF (pA H p 106) n m nd k a' (upd w dp (nI b)) r := by
              rw [hF0]
              dsimp only
              rw [if_neg c4, ← ha', if_pos (Int32.not_le.mp c5)]
            rw [eF] at fin85
            have eb : (Vb 406 2, r.2) = r := by rw [v1]; rw [up2_eq]
            refine c_tryBlocks hK hE' ep hP hn hm k (dp + 1) _ Vb W2 (upd w dp (nI b)) r.2 _ (nI_1 dp) (by omega) ?_ (fun j hj => ?_) (fun j hj => ?_) (fun j hj => ?_) (fun V' W' hT => ?_)
            · rw [v1, up2_nf (by decide)]; exact h5
            · rw [go7 6 (by decide) (by decide) (by decide)]; exact h6 j hj
            · rw [g7]
              unfold upd
              by_cases q : j = dp
              · rw [if_pos q, if_pos q]
              · rw [if_neg q, if_neg q]; exact w2 j (by omega)
            · rw [g8]; exact w3 j hj
            · obtain ⟨t1, t2, t3, t4⟩ := hT
              rw [eb, g128] at t1 t4
              refine fin85 V' W' ?_ ?_ (fun t a7 a8 a9 => ?_) (fun j hj => ?_) t4
              · rw [t1, v1, up2_uu]
              · rw [t2 128 (by decide) (by decide)]; exact g128
              · rw [t2 t a7 a8]; exact go7 t a7 a8 a9
              · rw [t3 j (by omega)]
                exact if_neg (by omega)
    · rw [hr0]
      exact (up2_id V 406 2 _ rfl).symm
    · rw [hr0]; exact h8
end C29
