/-! ===== the class: ask ===== -/
section C17
variable {d y n cm z dp k : Nat} {dv : Int32} {H : hp} {K : Nat → Nat} {V W : Nat → Nat → Int32} {kk : Rt} {bs : List Int32}
/-- the size of kinds 4 and 5 -/
theorem c_sz45 (hdv : dv = nI dp) (hdp : dp ≤ 13) (hT : ST H K) (hK : KI K) (hA : AK H K (z + 1)) (hl : bs.length < 14) (h3 : V 3 3 = nI k) (hk4 : k = 4 ∨ k = 5) (hk : kk (some (.inl (bsV (nI k) (V 4 3)))) (TC H K V W (bs ++ bsL (nI k)))) : CL (d + 4) mX6_answerOf 0 0 [.inr (.inr (1, z + 1)), .inl 0, .inl dv] (TC H K V W bs) kk := by
  refine c_answerOf hT hA h3 (by omega) (fun kk' hkk => ?_)
  rcases hk4 with rfl | rfl
  · refine c_b13 hdv (by omega) hK hA (by omega) (hkk _ _ ?_)
    rw [List.append_assoc]; exact hk
  · refine c_b14 hdv (by omega) hK hA hl (hkk _ _ ?_)
    rw [List.append_assoc, List.append_assoc]; exact hk
theorem c_b23 (hdv : dv = nI dp) (hdp : dp ≤ 12) (hT : ST H K) (hK : KI K) (hA : AK H K (z + 1)) (hl : bs.length < 11) (h3 : V 3 3 = nI k) (hk4 : k = 4 ∨ k = 5) (hk : kk (some (.inl (V 2 3 - bsV (nI k) (V 4 3)))) (TC H K V W (bs ++ ([23, 20] ++ bsL (nI k))))) : CL (d + 5) mX6_runBody 0 0 [.inr (.inr (1, z + 1)), .inl 23, .inl dv] (TC H K V W bs) kk := by
  subst hdv
  refine mw T_X6_runBody (fun Wm go => go cut0 80 0 _ _ _ _ _ ?_)
  refine And.intro (fun _ => ?_) (fun q => absurd ((nI_leI (b := 16) (by omega) (by omega)).mpr (by omega)) q)
  refine c_leave hK hA (by omega) ?_
  refine swn (by decide) (swn (by decide) (swn (by decide) (swn (by decide) (swn (by decide) (swn (by decide) (swn (by decide) (swn (by decide) (swn (by decide) (swn (by decide) (swn (by decide) (swn (by decide) (swn (by decide) (swy ?_)))))))))))))
  refine c_b20 (dp := dp + 1) (nI_1 dp) (by omega) hK hA (by rw [len1]; omega) ?_
  refine c_sz45 (dp := dp + 1) (nI_1 dp) (by omega) hT hK hA (by rw [len1, len1]; omega) h3 hk4 ?_
  rw [List.append_assoc, List.append_assoc]
  exact hk
theorem c_mark (hdv : dv = nI dp) (hdp : dp ≤ 11) (hT : ST H K) (hK : KI K) (hA : AK H K (z + 1)) (hl : bs.length < 11) (h3 : V 3 3 = nI k) (hk1 : 1 ≤ k) (hk5 : k ≤ 5) (hk : kk (some (.inl (mkV (nI k) (V 4 3) (V 2 3) (V 5 3)))) (TC H K V W (bs ++ mkL (nI k)))) : CL (d + 6) mX6_answerOf 0 0 [.inr (.inr (1, z + 1)), .inl 1, .inl dv] (TC H K V W bs) kk := by
  refine c_answerOf hT hA h3 (by omega) (fun kk' hkk => ?_)
  have hc : k = 1 ∨ k = 2 ∨ k = 3 ∨ k = 4 ∨ k = 5 := by omega
  rcases hc with rfl | rfl | rfl | rfl | rfl
  · refine c_b21 hdv (by omega) hK hA (by omega) (hkk _ _ ?_)
    rw [List.append_assoc]; exact hk
  · refine c_b24 hdv (by omega) hK hA (by omega) (hkk _ _ ?_)
    rw [List.append_assoc, List.append_assoc]; exact hk
  · refine c_b22 hdv (by omega) hK hA (by omega) (hkk _ _ ?_)
    rw [List.append_assoc, List.append_assoc]; exact hk
  · exact c_b23 hdv (by omega) hT hK hA hl h3 (Or.inl rfl) (hkk _ _ hk)
  · exact c_b23 hdv (by omega) hT hK hA hl h3 (Or.inr rfl) (hkk _ _ hk)
theorem c_b11 (hdv : dv = nI dp) (hdp : dp ≤ 10) (hT : ST H K) (hK : KI K) (hA : AK H K (z + 1)) (hl : bs.length < 9) (h3 : V 3 3 = nI k) (hk1 : 1 ≤ k) (hk5 : k ≤ 5) (hk : kk (some (.inl (V 4 3 + mkV (nI k) (V 4 3) (V 2 3) (V 5 3)))) (TC H K V W (bs ++ ([11, 10] ++ mkL (nI k))))) : CL (d + 7) mX6_runBody 0 0 [.inr (.inr (1, z + 1)), .inl 11, .inl dv] (TC H K V W bs) kk := by
  subst hdv
  refine mw T_X6_runBody (fun Wm go => go cut0 80 0 _ _ _ _ _ ?_)
  refine And.intro (fun _ => ?_) (fun q => absurd ((nI_leI (b := 16) (by omega) (by omega)).mpr (by omega)) q)
  refine c_leave hK hA (by omega) ?_
  refine swn (by decide) (swy ?_)
  refine c_b10 (dp := dp + 1) (nI_1 dp) (by omega) hK hA (by rw [len1]; omega) ?_
  refine c_mark (dp := dp + 1) (nI_1 dp) (by omega) hT hK hA (by rw [len1, len1]; omega) h3 hk1 hk5 ?_
  rw [List.append_assoc, List.append_assoc]
  exact hk
theorem c_b12 (hdv : dv = nI dp) (hdp : dp ≤ 9) (hT : ST H K) (hK : KI K) (hA : AK H K (z + 1)) (hl : bs.length < 8) (h3 : V 3 3 = nI k) (hk1 : 1 ≤ k) (hk5 : k ≤ 5) (hk : kk (some (.inl (-(V 4 3 + mkV (nI k) (V 4 3) (V 2 3) (V 5 3))))) (TC H K V W (bs ++ ([12, 11, 10] ++ mkL (nI k))))) : CL (d + 8) mX6_runBody 0 0 [.inr (.inr (1, z + 1)), .inl 12, .inl dv] (TC H K V W bs) kk := by
  subst hdv
  refine mw T_X6_runBody (fun Wm go => go cut0 80 0 _ _ _ _ _ ?_)
  refine And.intro (fun _ => ?_) (fun q => absurd ((nI_leI (b := 16) (by omega) (by omega)).mpr (by omega)) q)
  refine c_leave hK hA (by omega) ?_
  refine swn (by decide) (swn (by decide) (swy ?_))
  refine c_b11 (dp := dp + 1) (nI_1 dp) (by omega) hT hK hA (by rw [len1]; omega) h3 hk1 hk5 ?_
  rw [List.append_assoc]
  exact hk
theorem c_size (hdv : dv = nI dp) (hdp : dp ≤ 9) (hT : ST H K) (hK : KI K) (hA : AK H K (z + 1)) (hl : bs.length < 8) (h3 : V 3 3 = nI k) (hk1 : 1 ≤ k) (hk5 : k ≤ 5) (hk : kk (some (.inl (szV (nI k) (V 4 3) (V 2 3) (V 5 3)))) (TC H K V W (bs ++ szL (nI k)))) : CL (d + 9) mX6_answerOf 0 0 [.inr (.inr (1, z + 1)), .inl 0, .inl dv] (TC H K V W bs) kk := by
  refine c_answerOf hT hA h3 (by omega) (fun kk' hkk => ?_)
  have hc : k = 1 ∨ k = 2 ∨ k = 3 ∨ k = 4 ∨ k = 5 := by omega
  rcases hc with rfl | rfl | rfl | rfl | rfl
  · exact c_b11 hdv (by omega) hT hK hA (by omega) h3 hk1 hk5 (hkk _ _ hk)
  · exact c_b12 hdv (by omega) hT hK hA (by omega) h3 hk1 hk5 (hkk _ _ hk)
  · exact c_b11 hdv (by omega) hT hK hA (by omega) h3 hk1 hk5 (hkk _ _ hk)
  · refine c_b13 hdv (by omega) hK hA (by omega) (hkk _ _ ?_)
    rw [List.append_assoc]; exact hk
  · refine c_b14 hdv (by omega) hK hA (by omega) (hkk _ _ ?_)
    rw [List.append_assoc, List.append_assoc]; exact hk
abbrev abV (V : Nat → Nat → Int32) (a b c e : Int32) : Nat → Nat → Int32 := up2 (up2 (up2 (up2 (up2 V 1 3 0) 2 3 a) 3 3 b) 4 3 c) 5 3 e
theorem c_abegin {z' : Nat} {a b c e : Int32} (ez : z' = z) (hK : KI K) (hA : AK H K z) (hk : kk none (CU H K (abV V a b c e) W)) : CL d mX0_begin 0 0 [.inr (.inr (1, z')), .inl a, .inl b, .inl c, .inl e] (CU H K V W) kk := by
  subst ez
  obtain ⟨z, rfl⟩ : ∃ q, z' = q + 1 := ⟨z' - 1, by have := hA.1.1; omega⟩
  refine mw T_X0_begin (fun Wm go => go cut0 80 0 _ _ _ _ _ ?_)
  refine kkc hk rfl ?_
  rw [CU_wI hK hA.1.2 (by decide), CU_wI hK hA.1.2 (by decide), CU_wI hK hA.1.2 (by decide), CU_wI hK hA.1.2 (by decide), CU_wI hK hA.1.2 (by decide)]
theorem up2_id (V : Nat → Nat → Int32) (f s : Nat) (v : Int32) (h : V f s = v) : up2 V f s v = V := by
  funext f' s'
  unfold up2
  by_cases h1 : f' = f <;> by_cases h2 : s' = s <;> simp [h1, h2, ← h]
theorem TC_0 (h : V 1 3 = 0) : TC H K V W [] = CU H K V W := by
  show CU H K (up2 V 1 3 (nI 0)) (va_up W 5 (wrL (W 5) [])) = _
  rw [wrL_0, up_id, up2_id V 1 3 (nI 0) h]
end C17
