/-! ===== the class: writings ===== -/
/-- cells that no later call shows may differ: the search's, the foretold State's -/
def VE (V V' : Nat → Nat → Int32) : Prop := ∀ f s, s ≠ 2 → s ≠ 37 → s ≠ 38 → V' f s = V f s
def WE (W W' : Nat → Nat → Int32) : Prop := ∀ s, s ≠ 6 → s ≠ 7 → s ≠ 8 → s ≠ 127 → s ≠ 128 → s ≠ 227 → s ≠ 228 → W' s = W s
def wrC (R : Int32 × (Nat → Int32)) (m : Nat) (k : Int32) : Int32 := if R.1 < 0 ∨ ¬ k < nI m then eNONE else if k < 0 then R.1 else R.2 k.toNatClampNeg
theorem up2_cg {α : Type} {g g' : Nat → Nat → α} {f x f' x' : Nat} {v : α} (h : g f' x' = g' f' x') : up2 g f x v f' x' = up2 g' f x v f' x' := by
  unfold up2
  rw [h]
section C30
variable {d p n cm m t : Nat} {H : hp} {K : Nat → Nat} {V W : Nat → Nat → Int32} {kk : Rt}
theorem c_sbeginE {z' z0 t' t0 : Nat} (ez : z' = z0) (hK : KI K) (hE : SE H K z0) (et : t' = t0) (hT : SS H K t0 t) (hm : m ≤ 4) (hk : kk none (CU H K (beV (up2 (up2 V 404 2 (nI m)) 405 2 (-1)) 28 t) (beW W 28 t))) : CL (d + 2) mX4_begin 0 0 [.inr (.inr (5, z')), .inr (.inr (6, t')), .inl (nI m)] (CU H K V W) kk := by
  subst ez
  obtain ⟨z, rfl⟩ : ∃ q, z' = q + 1 := ⟨z' - 1, by have := hE.1.1; omega⟩
  exact c_sbegin hK hE et hT hm hk
theorem c_tryBlocksE {z' z0 p' D : Nat} {nd : Nat → Int32} {w fw : Nat → Int32} (ez : z' = z0) (eD : D = d + 2 + m) (hK : KI K) (hE : SE H K z0) (ep : p' = p) (hP : PP H K p) (hn : Pn H p n cm) (hm : m ≤ 4) (h5 : V 404 2 = nI m) (h6 : ∀ j, j < m → W 6 j = nd j) (h8 : ∀ j, j < m → W 8 j = fw j) (hk : ∀ V' W', TBp (pA H p 106) n m nd m 0 V W w fw V' W' → kk none (CU H K V' W')) : CL D mX6_tryBlocks 0 0 [.inr (.inr (2, p')), .inr (.inr (5, z')), .inl 0] (CU H K V W) kk := by
  subst ez
  subst eD
  subst ep
  obtain ⟨z, rfl⟩ : ∃ q, z' = q + 1 := ⟨z' - 1, by have := hE.1.1; omega⟩
  exact c_tryBlocks hK hE hP hn hm m 0 0 V W w fw kk rfl (by omega) h5 h6 (fun j hj => absurd hj (Nat.not_lt_zero j)) h8 hk
theorem c_chalkForE {p' : Nat} {c : Nat} {cv lines day : Int32} (ec : cv = nI c) (ep : p' = p) (hP : PP H K p) (hc : c < 4) (hk : kk (some (.inl (tkB (pA H p 108 c) (pA H p 109 c) lines day))) (CU H K V W)) : CL (d + 2) mX1_chalkFor 0 0 [.inr (.inr (2, p')), .inl cv, .inl lines, .inl day] (CU H K V W) kk := by
  subst ec
  exact c_chalkFor ep hP hc hk
end C30
section C31
variable {d y n cm r s q : Nat} {H : hp} {K : Nat → Nat} {V W : Nat → Nat → Int32} {kk : Rt} {rs : Nat → Option Nat}
set_option maxRecDepth 20000 in
theorem c_writings {rw' i many k : Int32} (hS : CS H K (y + 1)) (hn0 : Pn H (hfR H 604 (y + 1)) n cm) (hR : RLs V rs) (hs : n = 0 → kk (some (.inl eSTATE)) (CU H K V W)) (hb : 0 < n → ¬ (inB rw' 8 ∧ inR many 1 4 ∧ ¬ k < -1) → kk (some (.inl eBAD)) (CU H K V W))
    (hn : ∀ r m, 0 < n → r < 8 → rw' = nI r → 1 ≤ m → m ≤ 4 → many = nI m → ¬ k < -1 → rs r = none → kk (some (.inl (-1000010 - 1))) (CU H K (up2 V 603 1 1) W))
    (hp : ∀ r m s, 0 < n → r < 8 → rw' = nI r → 1 ≤ m → m ≤ 4 → many = nI m → ¬ k < -1 → rs r = some s → ¬ isPt s i (nI (2 * m)) → kk (some (.inl (-1000010 - 2))) (CU H K (up2 V 603 1 2) W))
    (hl : ∀ r m s i', 0 < n → r < 8 → rw' = nI r → 1 ≤ m → m ≤ 4 → many = nI m → ¬ k < -1 → rs r = some s → i = nI i' → i' + 2 * m ≤ s → ¬ (∀ w, w < m → inB (W (300 + r) (i' + 2 * w)) cm ∧ inR (W (300 + r) (i' + 2 * w + 1)) 1 30) → kk (some (.inl eBAD)) (CU H K V W))
    (hg : ∀ (r m s i' : Nat) (ca : Nat → Nat) (a w fw : Nat → Int32) (V' W' : Nat → Nat → Int32), 0 < n → r < 8 → rw' = nI r → 1 ≤ m → m ≤ 4 → many = nI m → ¬ k < -1 → rs r = some s → i = nI i' → i' + 2 * m ≤ s → (∀ w, w < m → W (300 + r) (i' + 2 * w) = nI (ca w) ∧ ca w < cm) → (∀ w, w < m → inR (W (300 + r) (i' + 2 * w + 1)) 1 30) → (∀ j, j < 8 → a j = W 100 j) → VE (up2 V 603 1 0) V' → WE W W' → kk (some (.inl (wrC (tbF (pA H (hfR H 604 (y + 1)) 106) n m (fun w => tkC H (hfR H 604 (y + 1)) V (ca w) (W (300 + r) (i' + 2 * w + 1))) m a w (-1, fw)) m k))) (CU H K V' W')) : CL (d + 8) mX6_writings 0 0 [.inr (.inr (7, y + 1)), .inl rw', .inl i, .inl many, .inl k] (CU H K V W) kk := by
  have n8 := hn0.1.2
  have c4 := hn0.2.2
  obtain ⟨r1, r2, r3⟩ := hS.rows
  refine mw3 T_X6_writings (fun Wm go wk => go (cut1 69) 80 0 _ _ _ _ _ ?_)
  refine c_hasCastle hS hn0 (fun q0 => br1 ?_) (fun q0 => br0 (hs q0))
  have hb := hb q0
  refine c_isBelow (m := 8) rfl (by omega) (fun q2 => br1 ?_) (fun q2 => br0 (hb (fun z => q2 z.1)))
  refine And.intro (fun q3 => hb (fun z => Int32.not_lt.mpr z.2.1.1 q3)) (fun q3 => And.intro (fun q4 => hb (fun z => Int32.not_lt.mpr z.2.1.2 q4)) (fun q4 => And.intro (fun q5 => ?_) (fun q5 => hb (fun z => q5 (Int32.not_lt.mp z.2.2)))))
  have q5 : ¬ k < -1 := Int32.not_lt.mpr q5
  obtain ⟨r, hr, rfl⟩ := inB_of q2 (by omega)
  obtain ⟨m, m1, m2, rfl⟩ := inR_n (a := 1) (b := 4) (by omega) ⟨Int32.not_lt.mp q3, Int32.not_lt.mp q4⟩ (by omega)
  refine nz r1 (And.intro ?_ ?_)
  · show vp_in (nI r) (haL H (hfR H 600 (y + 1)))
    rw [r3]; exact vp_in_nI hr (by omega)
  have z2 : RW1 H K (rho H (y + 1) r) r := hS.rw r hr
  refine nz (by rw [rho_e r hr]; exact z2.1) ?_
  refine c_lackOf (rho_e r hr) z2 (hR r hr) (fun z1 => ?_) (fun s z1 x6 w => ?_) (fun s z1 x6 w => ?_)
  · exact And.intro (fun c => absurd c (by decide)) (fun _ => c_found hS (hn r m q0 hr rfl m1 m2 rfl q5 z1))
  · exact And.intro (fun c => absurd c (by decide)) (fun _ => c_found hS (hp r m s q0 hr rfl m1 m2 rfl q5 z1 (fun w2 => w (by show isPt s i (2 * nI m); rw [ix2b]; exact w2))))
  refine And.intro (fun _ => ?_) (fun c => absurd rfl c)
  have w : isPt s i (2 * nI m) := w
  rw [ix2b] at w
  obtain ⟨i', rfl, hi'⟩ := isPt_of w (by omega)
  have hl := hl r m s i' q0 hr rfl m1 m2 rfl q5 z1 rfl hi'
  have hg := fun ca a w fw V' W' => hg r m s i' ca a w fw V' W' q0 hr rfl m1 m2 rfl q5 z1 rfl hi'
  refine wmc (Wm := Wm) (L' := [some (.inr (.inr (7, y + 1))), some (.inl (nI r)), some (.inl (nI i')), some (.inl (nI m)), some (.inl k), some (.inr (.inr (4, rho H (y + 1) r))), some (.inl 0), none]) ?_ (by rw [← rho_e (K := K) (V := V) (W := W) r hr]; rfl) rfl
  generalize rho H (y + 1) r = q at *
  obtain ⟨x1, x2, ⟨x3, x4, x5⟩, x7⟩ := z2
  refine go (cut1 98) 80 69 _ _ _ _ _ ?_
  refine nz x1 ?_
  refine c_tellsWritings (a := hfR H 300 q) rfl hS hn0 ⟨x3, x4, x5⟩ hr (Nat.le_refl 40) (by omega) (fun tw => br1 ?_) (fun tw => br0 (hl tw))
  obtain ⟨ca, hca⟩ : ∃ ca : Nat → Nat, ∀ w, w < m → W (300 + r) (i' + 2 * w) = nI (ca w) ∧ ca w < cm := by
    refine ⟨fun w => (W (300 + r) (i' + 2 * w)).toNatClampNeg, fun w hw => ?_⟩
    obtain ⟨b, hb1, hb2⟩ := inB_of (tw w hw).1 (by omega)
    dsimp only
    rw [hb2, nI_clamp (by omega)]
    exact ⟨rfl, hb1⟩
  have hg := fun a w fw V' W' => hg ca a w fw V' W' hca (fun w hw => (tw w hw).2)
  have hE : SE H K (hfR H 612 (y + 1)) := hS.sea
  refine nz hE.1.1 ?_
  refine c_sbeginE (CU_e _ _ _ _ _ _) hS.k hE (CU_e _ _ _ _ _ _) hS.now m2 ?_
  have hP1 : PP H K (hfR H 604 (y + 1)) := hS.pl
  generalize hzz : hfR H 612 (y + 1) = z0 at *
  generalize hpp : hfR H 604 (y + 1) = p at *
  obtain ⟨V1, hV1⟩ : ∃ V1 : Nat → Nat → Int32, V1 = beV (up2 (up2 V 404 2 (nI m)) 405 2 (-1)) 28 0 := ⟨_, rfl⟩
  obtain ⟨W1, hW1⟩ : ∃ W1 : Nat → Nat → Int32, W1 = beW W 28 0 := ⟨_, rfl⟩
  rw [← hV1, ← hW1]
  have v5 : V1 404 2 = nI m := by rw [hV1]; rfl
  have v6 : V1 405 2 = -1 := by rw [hV1]; rfl
  have v3 : V1 503 10 = V 503 10 := by rw [hV1]; rfl
  have vo : ∀ f s, s ≠ 2 → s ≠ 38 → V1 f s = V f s := by
    intro f s a1 a2
    rw [hV1]
    show up2 (up2 _ 502 38 _) 503 38 _ f s = _
    rw [up2_nx a2, up2_nx a2, up2_nx a1, up2_nx a1]
  have wo : ∀ s, s ≠ 128 → s ≠ 228 → W1 s = W s := by
    intro s a1 a2
    rw [hW1]
    show va_up (va_up W 128 _) 228 _ s = _
    rw [va_up_ne _ _ a2, va_up_ne _ _ a1]
  have wa : ∀ j, j < 8 → W1 128 j = W 100 j := by
    intro j hj
    rw [hW1]
    show va_up (va_up W 128 (va_cpy (W 100) (W 128) 0 0 8)) 228 _ 128 j = _
    rw [va_up_ne _ _ (by decide), va_up_self]
    unfold va_cpy
    rw [if_pos (by omega)]
    congr 1
    omega
  clear hV1 hW1
  obtain ⟨nd, hnd⟩ : ∃ nd : Nat → Int32, nd = fun w => tkC H p V (ca w) (W (300 + r) (i' + 2 * w + 1)) := ⟨_, rfl⟩
  rw [← hnd] at hg
  have hEk := hE
  obtain ⟨⟨e1, e2⟩, e3, ⟨n1, n2, n3⟩, -, ⟨f1, f2, f3⟩⟩ := hE
  obtain ⟨⟨a1, a2, a3⟩, ⟨a4, a5, a6⟩, -⟩ := hS.now
  refine go (cut1 101) 20 98 _ _ _ _ _ ?_
  refine upto (n := m) (P := fun t => ∀ Wt, (∀ j, j < t → Wt 6 j = nd j) → (∀ s, s ≠ 6 → Wt s = W1 s) → Wm 101 [some (.inr (.inr (7, y + 1))), some (.inl (nI r)), some (.inl (nI i')), some (.inl (nI m)), some (.inl k), some (.inr (.inr (4, q))), some (.inl 0), some (.inl (nI t))] [] (CU H K V1 Wt) 0 0) (fun t ht ih Wt t1 t2 => ?_) 0 (Nat.zero_le _) W1 (fun j hj => absurd hj (Nat.not_lt_zero j)) (fun _ _ => rfl)
  have z13 : hfR (CU H K V1 Wt) 612 (y + 1) = z0 := hzz
  have zpl : hfR (CU H K V1 Wt) 604 (y + 1) = p := hpp
  refine go (cut2 101 163) 80 101 _ _ _ _ _ ?_
  refine icg rfl rfl (by omega) (by omega) (fun c => ?_) (fun c => ?_)
  · have e : t = m := by omega
    subst e
    clear ih
    refine go (cut1 175) 40 163 _ _ _ _ _ ?_
    refine c_tryBlocksE (nd := nd) (w := W1 7) (fw := W1 8) (d := d + (5 - t)) (p := p) z13 (show d + 7 = d + (5 - t) + 2 + t by omega) hS.k hEk zpl hP1 hn0 m2 v5 t1 (fun j hj => congrFun (t2 8 (by decide)) j) (fun V' W' hT => ?_)
    obtain ⟨u1, u2, u3, u4⟩ := hT
    rw [v6] at u1 u4
    have hg := hg (Wt 128) (W1 7) (W1 8) (up2 V' 603 1 0) W' (fun j hj => by rw [t2 128 (by decide)]; exact wa j hj) (fun f s b1 b2 b3 => by
      refine up2_cg ?_
      rw [u1, up2_nx b1]
      exact vo f s b1 b3) (fun s b1 b2 b3 b4 b5 b6 b7 => by rw [u2 s b2 b3, t2 s b1]; exact wo s b5 b7)
    generalize tbF (pA H p 106) n t nd t (Wt 128) (W1 7) (-1, W1 8) = R at *
    have z13 : hfR (CU H K V' W') 612 (y + 1) = z0 := hzz
    have e6 : hfI (CU H K V' W') 405 (hfR (CU H K V' W') 612 (y + 1)) = R.1 := by
      rw [z13, CU_fI e2 (by decide), u1]; exact up2_eq
    have none' : (R.1 < 0 ∨ ¬ k < nI t) → Wm 191 [some (.inr (.inr (7, y + 1))), none, none, none, none, none, none, none] [] (CU H K V' W') 0 0 := by
      intro hc
      unfold wrC at hg
      rw [if_pos hc] at hg
      refine go cut0 20 191 _ _ _ _ _ ?_
      exact c_foundNone hS hg
    refine go (cut2 191 198) 40 175 _ _ _ _ _ ?_
    refine nz (by rw [z13]; exact e1) ?_
    rw [e6]
    refine And.intro (fun c1 => wk _ _ _ _ _ _ _ (none' (Or.inl c1)) (by repeat (first | exact ln | refine l0 ?_ | refine l1 rfl ?_))) (fun c1 => And.intro (fun c2 => ?_) (fun c2 => wk _ _ _ _ _ _ _ (none' (Or.inr c2)) (by repeat (first | exact ln | refine l0 ?_ | refine l1 rfl ?_))))
    have c1 : ¬ R.1 < 0 := c1
    have c2 : k < nI t := c2
    unfold wrC at hg
    rw [if_neg (fun z => z.elim c1 (fun z => z c2))] at hg
    refine go (cut1 224) 40 198 _ _ _ _ _ ?_
    refine And.intro (fun c3 => ?_) (fun c3 => ?_)
    · have c3 : ¬ k < 0 := Int32.not_lt.mpr c3
      rw [if_neg c3] at hg
      obtain ⟨k', hk', rfl⟩ := nI_of (x := k) c3
      have kt : k' < t := Nat.not_le.mp (fun z => Int32.not_lt.mpr ((nI_leI (by omega) hk').mpr z) c2)
      rw [nI_clamp hk', ← u4 k' kt] at hg
      refine nz (by rw [z13]; exact e1) ?_
      have z43 : hfR (CU H K V' W') 403 (hfR (CU H K V' W') 612 (y + 1)) = hfR H 403 z0 := by rw [z13]; rfl
      refine cld (by rw [z43]; exact f1) (s := 8) (by rw [z43]; exact f2) (by decide) (m := 4) (by rw [z43]; exact f3) (by omega) k' rfl (by omega) ?_
      refine go cut0 20 224 _ _ _ _ _ ?_
      exact c_foundNone hS hg
    · have c3 : k < 0 := Int32.not_le.mp c3
      rw [if_pos c3] at hg
      refine nz (by rw [z13]; exact e1) ?_
      rw [e6]
      refine go cut0 20 224 _ _ _ _ _ ?_
      exact c_foundNone hS hg
  · have z41 : hfR (CU H K V1 Wt) 401 (hfR (CU H K V1 Wt) 612 (y + 1)) = hfR H 401 z0 := by rw [z13]; rfl
    have z31 : hfR (CU H K V1 Wt) 300 q = hfR H 300 q := rfl
    have w3 : Wt (300 + r) = W (300 + r) := by rw [t2 _ (by omega)]; exact wo _ (by omega) (by omega)
    refine nz (by rw [z13]; exact e1) ?_
    refine nz x1 ?_
    refine cld (by rw [z31]; exact x3) (s := 300 + r) (by rw [z31]; exact x4) (by omega) (m := 40) (by rw [z31]; exact x5) (by omega) (i' + 2 * t) (ix2 i' t) (by omega) ?_
    refine nz x1 ?_
    refine cld (by rw [z31]; exact x3) (s := 300 + r) (by rw [z31]; exact x4) (by omega) (m := 40) (by rw [z31]; exact x5) (by omega) (i' + 2 * t + 1) (show nI i' + 2 * nI t + 1 = nI (i' + 2 * t + 1) by rw [ix2, nI_1]) (by omega) ?_
    refine nz a1 ?_
    refine nz (by rw [zpl]; exact hP1.1.1) ?_
    refine c_chalkForE (c := ca t) (by rw [w3]; exact (hca t c).1) zpl hP1 (by have := (hca t c).2; omega) ?_
    refine cst hS.k (by rw [z41]; exact n1) (s := 6) (by rw [z41]; exact n2) (by decide) (m := 4) (by rw [z41]; exact n3) (by omega) t rfl (by omega) ?_
    have ed : hfI (CU H K V1 Wt) 503 (hfR (CU H K V1 Wt) 605 (y + 1)) = V 503 10 := (CU_fI a2 (by decide)).trans v3
    have e := ih c (va_up Wt 6 (upd (Wt 6) t (nd t))) (fun j hj => by
      rw [va_up_self]
      unfold upd
      by_cases q : j = t
      · rw [if_pos q, q]
      · rw [if_neg q]; exact t1 j (by omega)) (fun s hs => (va_up_ne _ _ hs).trans (t2 s hs))
    rw [← nI_1] at e
    have en : tkB (pA H p 108 (ca t)) (pA H p 109 (ca t)) (Wt (300 + r) (i' + 2 * t + 1)) (hfI (CU H K V1 Wt) 503 (hfR (CU H K V1 Wt) 605 (y + 1))) = nd t := by
      rw [ed, w3, hnd]
    rw [en]
    exact e
end C31
