/-! ===== the class: asks ===== -/
def isTo (k : Nat) : Int32 := match k with | 0 => 1 | 1 => 3 | 2 => 7 | 3 => 11 | 4 => 17 | _ => 49
def szB (k : Nat) : Int32 := match k with | 0 => 10 | 1 => 11 | 2 => 12 | 3 => 11 | 4 => 13 | _ => 14
def mkB (k : Nat) : Int32 := match k with | 0 => 20 | 1 => 21 | 2 => 24 | 3 => 22 | 4 => 23 | _ => 23
def S1 (H : hp) (K : Nat → Nat) (f : Nat) (g : Nat → Int32) : Prop := (hfR H f 0 ≠ 0 ∧ 400 ≤ K (hfR H f 0) ∧ haL H (hfR H f 0) = 6) ∧ ∀ k, k < 6 → haI H (hfR H f 0) k = g k
def ST (H : hp) (K : Nat → Nat) : Prop := S1 H K 9001 isTo ∧ S1 H K 9002 szB ∧ S1 H K 9003 mkB
abbrev TC (H : hp) (K : Nat → Nat) (V W : Nat → Nat → Int32) (bs : List Int32) : hp := CU H K (up2 V 1 3 (nI bs.length)) (va_up W 5 (wrL (W 5) bs))
def AK (H : hp) (K : Nat → Nat) (z : Nat) : Prop := (z ≠ 0 ∧ K z = 3) ∧ AR H K (hfR H 0 z) 5 16
theorem up2_uu (V : Nat → Nat → Int32) (f s : Nat) (v w : Int32) : up2 (up2 V f s v) f s w = up2 V f s w := by
  funext f' s'
  unfold up2
  by_cases h1 : f' = f <;> by_cases h2 : s' = s <;> simp [h1, h2]
section C15
variable {d y n cm z : Nat} {H : hp} {K : Nat → Nat} {V W : Nat → Nat → Int32} {kk : Rt} {bs : List Int32}
theorem c_leave {b : Int32} (hK : KI K) (hA : AK H K (z + 1)) (hl : bs.length < 16) (hk : kk none (TC H K V W (bs ++ [b]))) : CL d mX0_leave 0 0 [.inr (.inr (1, z + 1)), .inl b] (TC H K V W bs) kk := by
  obtain ⟨⟨a1, a2⟩, ⟨u1, u2, u3⟩⟩ := hA
  refine mw T_X0_leave (fun Wm go => go cut0 80 0 _ _ _ _ _ ?_)
  have e : ∀ W', hfI (CU H K (up2 V 1 3 (nI bs.length)) W') 1 (z + 1) = nI bs.length := fun W' => (CU_fI a2 (by decide)).trans rfl
  refine icg (e _) (show (16 : Int32) = nI 16 from rfl) (by omega) (by omega) (fun z => by omega) (fun z => ?_)
  refine cst hK u1 u2 (by decide) u3 (by omega) bs.length (e _) hl ?_
  refine kkc hk rfl ?_
  rw [CU_wI hK a2 (by decide), e, up2_uu]
  show CU H K (up2 V 1 3 (nI bs.length + 1)) (va_up (va_up W 5 (wrL (W 5) bs)) 5 (upd (va_up W 5 (wrL (W 5) bs) 5) bs.length b)) = CU H K (up2 V 1 3 (nI (bs ++ [b]).length)) (va_up W 5 (wrL (W 5) (bs ++ [b])))
  rw [va_up_self, bx_uu, nI_1, ← wrL_s, List.length_append, List.length_singleton]
theorem c_as {cl kd : Int32} (hS : CS H K (y + 1)) (hn : Pn H (hfR H 604 (y + 1)) n cm) (hT : ST H K) (hkd : ∀ c, c < cm → ∃ k, 1 ≤ k ∧ k ≤ 5 ∧ pA H (hfR H 604 (y + 1)) 108 c = nI k) (hb : ¬ (inB cl cm ∧ inB kd 6) → kk (some (.inl eBAD)) (CU H K V W))
    (hf : ∀ c k, c < cm → cl = nI c → inB kd 6 → k < 6 → pA H (hfR H 604 (y + 1)) 108 c = nI k → (isTo k >>> (kd &&& 31)) &&& 1 = 0 → kk (some (.inl (-1000010 - 3))) (CU H K (up2 V 603 1 3) W))
    (hg : ∀ c k, c < cm → cl = nI c → inB kd 6 → k < 6 → pA H (hfR H 604 (y + 1)) 108 c = nI k → ¬ (isTo k >>> (kd &&& 31)) &&& 1 = 0 → kk (some (.inl (nI c))) (CU H K (up2 V 603 1 0) W)) : CL (d + 2) mX6_as 0 0 [.inr (.inr (7, y + 1)), .inl cl, .inl kd] (CU H K V W) kk := by
  have c4 := hn.2.2
  obtain ⟨-, -, -, ⟨b4, b5, b6⟩, -⟩ := hS.pl
  obtain ⟨⟨t1, t2, t3⟩, t4⟩ := hT.1
  refine mw T_X6_as (fun Wm go => go cut0 80 0 _ _ _ _ _ ?_)
  refine nz hS.pl.1.1 ?_
  refine c_hasClerk (CU_e _ _ _ _ _ _) hS.pl hn (fun q1 => br1 ?_) (fun q1 => br0 (hb (fun z => q1 z.1)))
  refine c_isBelow (m := 6) rfl (by omega) (fun q2 => br1 ?_) (fun q2 => br0 (hb (fun z => q2 z.2)))
  obtain ⟨c, hc, rfl⟩ := inB_of q1 (by omega)
  obtain ⟨k, k1, k5, ek⟩ := hkd c hc
  refine nz hS.pl.1.1 ?_
  refine cldo b4 b5 b6 (by omega) c rfl (by omega) ?_
  refine cldo t1 t2 t3 (by omega) k ek (by omega) ?_
  rw [show haI H (hfR (CU H K V W) 9001 0) k = isTo k from t4 k (by omega)]
  refine And.intro (fun w => ?_) (fun w => ?_)
  · exact c_found hS (hf c k hc rfl q2 (by omega) ek w)
  · exact c_foundNone hS (hg c k hc rfl q2 (by omega) ek w)
end C15
