/-! ===== the class: the bodies ===== -/
theorem swn {a b : Int32} {X Y : Prop} (h : ¬ a = b) (y : Y) : (a = b → X) ∧ (¬ a = b → Y) := ⟨fun e => absurd e h, fun _ => y⟩
theorem swy {a : Int32} {X Y : Prop} (x : X) : (a = a → X) ∧ (¬ a = a → Y) := ⟨fun _ => x, fun h => absurd rfl h⟩
section C16
variable {d y n cm z dp k : Nat} {dv : Int32} {H : hp} {K : Nat → Nat} {V W : Nat → Nat → Int32} {kk : Rt} {bs : List Int32}
theorem len1 {b : Int32} : (bs ++ [b]).length = bs.length + 1 := by rw [List.length_append, List.length_singleton]
theorem TC_f {f : Nat} (hA : AK H K (z + 1)) (hf : f ≠ 1) : hfI (TC H K V W bs) f (z + 1) = V f 3 := (CU_fI hA.1.2 (by decide)).trans (if_neg hf)
theorem c_b10 (hdv : dv = nI dp) (hdp : dp ≤ 16) (hK : KI K) (hA : AK H K (z + 1)) (hl : bs.length < 16) (hk : kk (some (.inl (V 4 3))) (TC H K V W (bs ++ [10]))) : CL (d + 1) mX6_runBody 0 0 [.inr (.inr (1, z + 1)), .inl 10, .inl dv] (TC H K V W bs) kk := by
  subst hdv
  refine mw T_X6_runBody (fun Wm go => go cut0 80 0 _ _ _ _ _ ?_)
  refine And.intro (fun _ => ?_) (fun q => absurd ((nI_leI (b := 16) (by omega) (by omega)).mpr hdp) q)
  refine c_leave hK hA hl (swy ?_)
  exact kki hk (TC_f hA (by decide)) rfl
theorem c_b20 (hdv : dv = nI dp) (hdp : dp ≤ 16) (hK : KI K) (hA : AK H K (z + 1)) (hl : bs.length < 16) (hk : kk (some (.inl (V 2 3))) (TC H K V W (bs ++ [20]))) : CL (d + 1) mX6_runBody 0 0 [.inr (.inr (1, z + 1)), .inl 20, .inl dv] (TC H K V W bs) kk := by
  subst hdv
  refine mw T_X6_runBody (fun Wm go => go cut0 80 0 _ _ _ _ _ ?_)
  refine And.intro (fun _ => ?_) (fun q => absurd ((nI_leI (b := 16) (by omega) (by omega)).mpr hdp) q)
  refine c_leave hK hA hl ?_
  refine swn (by decide) (swn (by decide) (swn (by decide) (swn (by decide) (swn (by decide) (swn (by decide) (swn (by decide) (swn (by decide) (swn (by decide) (swn (by decide) (swy ?_))))))))))
  exact kki hk (TC_f hA (by decide)) rfl
theorem c_b13 (hdv : dv = nI dp) (hdp : dp ≤ 15) (hK : KI K) (hA : AK H K (z + 1)) (hl : bs.length < 15) (hk : kk (some (.inl (V 4 3 - 100))) (TC H K V W (bs ++ [13] ++ [10]))) : CL (d + 2) mX6_runBody 0 0 [.inr (.inr (1, z + 1)), .inl 13, .inl dv] (TC H K V W bs) kk := by
  subst hdv
  refine mw T_X6_runBody (fun Wm go => go cut0 80 0 _ _ _ _ _ ?_)
  refine And.intro (fun _ => ?_) (fun q => absurd ((nI_leI (b := 16) (by omega) (by omega)).mpr (by omega)) q)
  refine c_leave hK hA (by omega) ?_
  refine swn (by decide) (swn (by decide) (swn (by decide) (swy ?_)))
  exact c_b10 (dp := dp + 1) (nI_1 dp) (by omega) hK hA (by rw [len1]; omega) hk
theorem c_b14 (hdv : dv = nI dp) (hdp : dp ≤ 14) (hK : KI K) (hA : AK H K (z + 1)) (hl : bs.length < 14) (hk : kk (some (.inl (2 * (V 4 3 - 100)))) (TC H K V W (bs ++ [14] ++ [13] ++ [10]))) : CL (d + 3) mX6_runBody 0 0 [.inr (.inr (1, z + 1)), .inl 14, .inl dv] (TC H K V W bs) kk := by
  subst hdv
  refine mw T_X6_runBody (fun Wm go => go cut0 80 0 _ _ _ _ _ ?_)
  refine And.intro (fun _ => ?_) (fun q => absurd ((nI_leI (b := 16) (by omega) (by omega)).mpr (by omega)) q)
  refine c_leave hK hA (by omega) ?_
  refine swn (by decide) (swn (by decide) (swn (by decide) (swn (by decide) (swy ?_))))
  exact c_b13 (dp := dp + 1) (nI_1 dp) (by omega) hK hA (by rw [len1]; omega) hk
theorem c_b21 (hdv : dv = nI dp) (hdp : dp ≤ 15) (hK : KI K) (hA : AK H K (z + 1)) (hl : bs.length < 15) (hk : kk (some (.inl (V 2 3 + V 5 3))) (TC H K V W (bs ++ [21] ++ [20]))) : CL (d + 2) mX6_runBody 0 0 [.inr (.inr (1, z + 1)), .inl 21, .inl dv] (TC H K V W bs) kk := by
  subst hdv
  refine mw T_X6_runBody (fun Wm go => go cut0 80 0 _ _ _ _ _ ?_)
  refine And.intro (fun _ => ?_) (fun q => absurd ((nI_leI (b := 16) (by omega) (by omega)).mpr (by omega)) q)
  refine c_leave hK hA (by omega) ?_
  refine swn (by decide) (swn (by decide) (swn (by decide) (swn (by decide) (swn (by decide) (swn (by decide) (swn (by decide) (swn (by decide) (swn (by decide) (swn (by decide) (swn (by decide) (swy ?_)))))))))))
  refine c_b20 (dp := dp + 1) (nI_1 dp) (by omega) hK hA (by rw [len1]; omega) ?_
  exact kki hk (by rw [TC_f hA (by decide)]) rfl
theorem c_b22 (hdv : dv = nI dp) (hdp : dp ≤ 14) (hK : KI K) (hA : AK H K (z + 1)) (hl : bs.length < 14) (hk : kk (some (.inl (V 2 3 + V 5 3 - 1000))) (TC H K V W (bs ++ [22] ++ [21] ++ [20]))) : CL (d + 3) mX6_runBody 0 0 [.inr (.inr (1, z + 1)), .inl 22, .inl dv] (TC H K V W bs) kk := by
  subst hdv
  refine mw T_X6_runBody (fun Wm go => go cut0 80 0 _ _ _ _ _ ?_)
  refine And.intro (fun _ => ?_) (fun q => absurd ((nI_leI (b := 16) (by omega) (by omega)).mpr (by omega)) q)
  refine c_leave hK hA (by omega) ?_
  refine swn (by decide) (swn (by decide) (swn (by decide) (swn (by decide) (swn (by decide) (swn (by decide) (swn (by decide) (swn (by decide) (swn (by decide) (swn (by decide) (swn (by decide) (swn (by decide) (swy ?_))))))))))))
  exact c_b21 (dp := dp + 1) (nI_1 dp) (by omega) hK hA (by rw [len1]; omega) hk
theorem c_b24 (hdv : dv = nI dp) (hdp : dp ≤ 14) (hK : KI K) (hA : AK H K (z + 1)) (hl : bs.length < 14) (hk : kk (some (.inl (2 * (V 2 3 + V 5 3)))) (TC H K V W (bs ++ [24] ++ [21] ++ [20]))) : CL (d + 3) mX6_runBody 0 0 [.inr (.inr (1, z + 1)), .inl 24, .inl dv] (TC H K V W bs) kk := by
  subst hdv
  refine mw T_X6_runBody (fun Wm go => go cut0 80 0 _ _ _ _ _ ?_)
  refine And.intro (fun _ => ?_) (fun q => absurd ((nI_leI (b := 16) (by omega) (by omega)).mpr (by omega)) q)
  refine c_leave hK hA (by omega) ?_
  refine swn (by decide) (swn (by decide) (swn (by decide) (swn (by decide) (swn (by decide) (swn (by decide) (swn (by decide) (swn (by decide) (swn (by decide) (swn (by decide) (swn (by decide) (swn (by decide) (swn (by decide) (swn (by decide) (swy ?_))))))))))))))
  exact c_b21 (dp := dp + 1) (nI_1 dp) (by omega) hK hA (by rw [len1]; omega) hk
theorem c_answerOf {wh : Int32} (hT : ST H K) (hA : AK H K (z + 1)) (h3 : V 3 3 = nI k) (hk6 : k < 6) (hr : ∀ kk' : Rt, (∀ v h', kk (some (.inl v)) h' → kk' (some (.inl v)) h') → CL d mX6_runBody 0 0 [.inr (.inr (1, z + 1)), .inl (if wh = 0 then szB k else mkB k), .inl dv] (TC H K V W bs) kk') : CL (d + 1) mX6_answerOf 0 0 [.inr (.inr (1, z + 1)), .inl wh, .inl dv] (TC H K V W bs) kk := by
  obtain ⟨-, ⟨⟨s1, s2, s3⟩, s4⟩, ⟨⟨t1, t2, t3⟩, t4⟩⟩ := hT
  have e3 : hfI (TC H K V W bs) 3 (z + 1) = nI k := (TC_f hA (by decide)).trans h3
  refine mw T_X6_answerOf (fun Wm go => go cut0 80 0 _ _ _ _ _ ?_)
  refine And.intro (fun w => ?_) (fun w => ?_)
  · have w : wh = 0 := w
    refine c_isBelow (m := 6) rfl (by omega) (fun q => br1 ?_) (fun q => absurd (by rw [e3]; exact inB_nI hk6 (by omega)) q)
    refine cldo s1 s2 s3 (by omega) k e3 hk6 ?_
    rw [show haI H (hfR (TC H K V W bs) 9002 0) k = szB k from s4 k hk6]
    have := hr _ (fun v h' hq => hq)
    rw [if_pos w] at hr
    exact hr _ (fun v h' hq => hq)
  · have w : ¬ wh = 0 := w
    refine c_isBelow (m := 6) rfl (by omega) (fun q => br1 ?_) (fun q => absurd (by rw [e3]; exact inB_nI hk6 (by omega)) q)
    refine cldo t1 t2 t3 (by omega) k e3 hk6 ?_
    rw [show haI H (hfR (TC H K V W bs) 9003 0) k = mkB k from t4 k hk6]
    rw [if_neg w] at hr
    exact hr _ (fun v h' hq => hq)
end C16
