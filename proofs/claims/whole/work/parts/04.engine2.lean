/-! ===== ENGINE, the machine's half: what a heap is, what a step owes ===== -/
/-- the tables' words that stay true in every callee -/
def lw_g : List Cond := lw_tbl.filter goodWord
theorem g_in {w : Cond} (h : w ∈ lw_tbl) (hg : goodWord w = true) : w ∈ lw_g := List.mem_filter.mpr ⟨h, hg⟩
theorem g_good : GoodIn lw_g lw_g := fun w hw => ⟨hw, good_of_word (List.mem_filter.mp hw).2⟩
def nests : List (String × Nat × MethodName) := [(RX1, 49, yX6_isBelow), (RX1, 59, yX6_chalkByKind)]
def Nw5 (U : State) : Prop := va_AO RX1 U ∧ va_AO RX3 U ∧ va_AO RX5 U ∧ ∀ q ∈ nests, va_Nw (.methodLinkNest q.1 q.2.1 q.2.2 "ChalkCastle") U
theorem Nw5.warm {s U : State} (hW : s.WarmedH U.vm) (h : Nw5 s) : Nw5 U := ⟨va_AO.moved hW.alike h.1, va_AO.moved hW.alike h.2.1, va_AO.moved hW.alike h.2.2.1, fun q hq => va_Nw.warmM hW (h.2.2.2 q hq)⟩
def rv : Nat → Value
  | 0 => .null
  | a + 1 => .ref a
def dr : Nat → Option Nat
  | 0 => none
  | a + 1 => some a
theorem rf_dr (x : Nat) : va_rf (dr x) = rv x := by cases x <;> rfl
def tv : pv → Value
  | .inl i => .int i
  | .inr (.inl l) => .long l
  | .inr (.inr (_, x)) => rv x
/-- the kinds of the fields that are references, 0 for ints; by classes -/
def frT : List (List Nat) := [[20, 0, 0, 0, 0, 0], [0, 0, 0, 0, 0, 20, 20, 20, 20, 20], [2, 20, 0, 0, 0], [20, 0, 0], [6, 20, 20, 20, 0, 0], [20, 20, 0, 0], [23, 3, 0, 0, 2, 6, 24, 0, 0, 22, 24, 6, 5, 1], [0, 20, 20, 20, 0, 20, 0, 0, 0, 0, 0, 0, 20, 20, 20, 20, 20, 0, 0, 0, 0, 0, 20, 20, 20, 20, 20, 0, 0, 20, 20, 21, 20, 20, 20, 20, 20, 0, 20]]
def frt (ci k : Nat) : Nat := ((frT[ci]?.getD [])[k]?).getD 0
def nF (ci : Nat) : Nat := (frT[ci]?.getD []).length
def fval (h : hp) (x ci k : Nat) : Value := if frt ci k = 0 then .int (hfI h (100 * ci + k) x) else rv (hfR h (100 * ci + k) x)
def fls (h : hp) (x ci : Nat) : List Value := (List.range (nF ci)).map (fval h x ci)
/-- ghosts: the classes' numbers and slots, the arrays' classes, the first address that is ours -/
abbrev Gh : Type := va_G × (Nat → ClassId) × Nat
def gA (G : Gh) : Nat → Prop := fun q => G.2.2 ≤ q
def gty (G : Gh) : List (ClassId × FieldType) := [(G.2.1 0, .int), (G.2.1 1, .boolean), (G.2.1 2, .object RX1), (G.2.1 3, .object RX3), (G.2.1 4, .object RX5)]
def Fk (G : Gh) (h : hp) (a k : Nat) : va_E :=
  if k = 20 then .inl (G.2.1 0, haL h (a + 1), .inl (haI h (a + 1)))
  else if k = 21 then .inl (G.2.1 1, haL h (a + 1), .inl (haI h (a + 1)))
  else if k = 22 then .inl (G.2.1 2, haL h (a + 1), .inr (.inr (.inr (.inr (fun j => dr (haR h (a + 1) j))))))
  else if k = 23 then .inl (G.2.1 3, haL h (a + 1), .inr (.inr (.inr (.inr (fun j => dr (haR h (a + 1) j))))))
  else if k = 24 then .inl (G.2.1 4, haL h (a + 1), .inr (.inr (.inr (.inr (fun j => dr (haR h (a + 1) j))))))
  else .inr (k - 1, fls h (a + 1) (k - 1))
def Fh (G : Gh) (K : Nat → Nat) (h : hp) : Nat → va_E := fun a => Fk G h a (K a)
def okr (K : Nat → Nat) (t x : Nat) : Prop := ∀ b, x = b + 1 → K b = t ∧ t ≠ 0
def okv (K : Nat → Nat) : pv → Prop
  | .inr (.inr (t, x)) => okr K t x
  | _ => True
def Ty (K : Nat → Nat) (h : hp) : Prop := (∀ a ci k, K a = ci + 1 → frt ci k ≠ 0 → okr K (frt ci k) (hfR h (100 * ci + k) (a + 1))) ∧ (∀ a j, K a = 22 → okr K 2 (haR h (a + 1) j)) ∧ (∀ a j, K a = 23 → okr K 4 (haR h (a + 1) j)) ∧ (∀ a j, K a = 24 → okr K 6 (haR h (a + 1) j))
def Sx1 (G : Gh) (K : Nat → Nat) (h : hp) (U : State) (H : Heap) (f : Nat) (nm : String) : Prop := ∃ t : Nat, hfR h f 0 = t + 1 ∧ K t = 25 ∧ va_Z "ChalkCastle" nm "[I" (.ref t) (gA G) U H
def Sx (G : Gh) (K : Nat → Nat) (h : hp) (U : State) (H : Heap) : Prop := (∀ b, K b = 25 → va_T .int b (haL h (b + 1)) (fun j => .int (haI h (b + 1) j)) (gA G) U H) ∧ Sx1 G K h U H 9001 "IS_TOO" ∧ Sx1 G K h U H 9002 "SIZE_BODIES" ∧ Sx1 G K h U H 9003 "MARK_BODIES"
def Ext (K K' : Nat → Nat) : Prop := ∀ a, K a ≠ 0 → K' a = K a
def HB (G : Gh) (K : Nat → Nat) (Ls : List Nat) (h : hp) (U : State) (H H0 : Heap) : Prop :=
  va_K G.1 vwCl (gty G) U ∧ va_P G.1 vwCl (va_pl Ls (Fh G K h)) H ∧ va_D (gA G) (va_pl Ls (Fh G K h)) ∧ (hz h ≤ H.size + 1 ∧ G.2.2 ≤ H0.size ∧ ∀ a, K a ≠ 0 → a + 1 < hz h) ∧ (∀ a, a ∈ Ls ↔ (K a ≠ 0 ∧ K a ≠ 25)) ∧ Ty K h ∧ Sx G K h U H0 ∧ Nw5 U
def lrel (K : Nat → Nat) (ls : Array Slot) (nL : Nat) (L : Lo) : Prop := ls.size = nL ∧ lv_wf ls ∧ L.length = nL ∧ ∀ i v, lget L i = some v → ls[i]? = some (.val (tv v)) ∧ okv K v
def mws (y : MI) : List Cond := Cond.code y.1 y.2.1 y.2.2.1 y.2.2.2 :: lw_g
def rmO (d mc ms : Nat) : Room := { frames := d, cells := mc, slots := ms, locals := 64 * d }
def QcK (G : Gh) (K : Nat → Nat) (kk : Rt) : Array Value → State → Outcome → State → Prop := fun _ st oc t => (∃ (v : Option pv) (K' : Nat → Nat) (Ls' : List Nat) (h' : hp), oc = .returned (v.map tv) ∧ kk v h' ∧ HB G K' Ls' h' t t.heap t.heap ∧ (∀ w, v = some w → okv K' w) ∧ Ext K K') ∧ va_F (gA G) st t
/-- a call's contract, over the machine -/
def CL : Cl := fun d y mc ms as h kk => ∀ (l : Launch) (G : Gh) (K : Nat → Nat) (Ls : List Nat), (∀ v ∈ as, okv K v) → Met l y.1 (mws y) (rmO d mc ms) (va_Pc (as.map tv) (fun U => HB G K Ls h U U.heap U.heap)) (QcK G K kk) mc ms (gA G)
def WM (p : Program) (l : Launch) (e : Env) (R : Room) (s : State) (m : MethodId) (args : Array Value) (below : List Frame) (meth : Method) (c : Code) (G : Gh) (K0 : Nat → Nat) (nL mc ms : Nat) (Q : State → Prop) : Nx := fun pc L S h cu su =>
  cu ≤ mc → su ≤ ms → ∀ (K : Nat → Nat) (Ls : List Nat) (H : Heap) (locs : List Loc) (ls : Array Slot), HB G K Ls h s H s.heap → va_S (gA G) s.heap H locs → Ext K0 K → lrel K ls nL L → (∀ v ∈ S, okv K v) → W p l e R s m args below meth c H locs cu su Q (F0 m pc ls (S.map tv))
def retI : Option pv → Instr
  | none => .return_
  | some (.inl _) => .ireturn
  | some (.inr (.inl _)) => .lreturn
  | some (.inr (.inr _)) => .areturn
def rtOk (rt : Option FieldType) : Option pv → Prop
  | none => rt = none
  | some (.inl v) => rt = some .int ∨ (rt = some .boolean ∧ (v = 0 ∨ v = 1))
  | some (.inr (.inl _)) => rt = some .long
  | some (.inr (.inr _)) => False
def CX (p : Program) (l : Launch) (e : Env) (R : Room) (s : State) (m : MethodId) (args : Array Value) (below : List Frame) (meth : Method) (c : Code) (G : Gh) (K0 : Nat → Nat) (own : String) (cc : ByteArray) (nL : Nat) (rt : Option FieldType) (ini : Bool) (d mc ms : Nat) (kk : Rt) (Q : State → Prop) : Prop :=
  p.tables.exec = Jvm.exec ∧ c.code = cc ∧ c.maxLocals = nL ∧ s.vm.findClass own = some m.cls ∧ (∀ w ∈ lw_g, w.before args s = true) ∧ (d ≤ R.frames ∧ 64 * d ≤ R.locals ∧ mc ≤ R.cells ∧ ms ≤ R.slots) ∧ (ini = true → meth.name = "<init>") ∧
  (∀ (v : Option pv) (h : hp) (cu su : Nat), kk v h → cu ≤ mc → su ≤ ms → rtOk rt v → ∀ (K : Nat → Nat) (Ls : List Nat) (H : Heap) (locs : List Loc) (ls : Array Slot) (pc : Nat), HB G K Ls h s H s.heap → va_S (gA G) s.heap H locs → Ext K0 K → (∀ w, v = some w → okv K w) → decode cc pc = .ok (retI v, 1) → W p l e R s m args below meth c H locs cu su Q (F0 m pc ls (v.map tv).toList))
def SOK (own : String) (cc : ByteArray) (nL : Nat) (rt : Option FieldType) (ini : Bool) (pc : Nat) (st : Step) : Prop :=
  ∀ (p : Program) (l : Launch) (e : Env) (R : Room) (s : State) (m : MethodId) (args : Array Value) (below : List Frame) (meth : Method) (c : Code) (G : Gh) (K0 : Nat → Nat) (d mc ms : Nat) (kk : Rt) (Q : State → Prop), CX p l e R s m args below meth c G K0 own cc nL rt ini d mc ms kk Q →
  ∀ nx : Nx, (∀ pc L S h cu su, nx pc L S h cu su → WM p l e R s m args below meth c G K0 nL mc ms Q pc L S h cu su) → ∀ (L : Lo) (S : List pv) (h : hp) (cu su : Nat), st CL d mc ms kk nx L S h cu su → WM p l e R s m args below meth c G K0 nL mc ms Q pc L S h cu su
theorem leaf_ok {own : String} {cc : ByteArray} {nL : Nat} {rt : Option FieldType} {ini : Bool} {pc k : Nat} {st : Step} (h : SOK own cc nL rt ini k st) : SOK own cc nL rt ini pc (bif Nat.beq pc k then st else s_no) := by
  cases hb : Nat.beq pc k with
  | true =>
    have e : pc = k := Nat.eq_of_beq_eq_true hb
    subst e
    exact h
  | false =>
    intro p l e R s m args below meth c G K0 d mc ms kk Q C nx hn L S h cu su hf
    exact hf.elim
theorem node_ok {own : String} {cc : ByteArray} {nL : Nat} {rt : Option FieldType} {ini : Bool} {pc : Nat} {b : Bool} {s1 s2 : Step} (h1 : SOK own cc nL rt ini pc s1) (h2 : SOK own cc nL rt ini pc s2) : SOK own cc nL rt ini pc (bif b then s1 else s2) := by
  cases b
  · exact h2
  · exact h1
-- locals
def asc (L : Lo) (n : Nat) : List (Nat × Value) := (List.range n).filterMap (fun j => (lget L j).map (fun v => (j, tv v)))
theorem asc_mem {L : Lo} {n j : Nat} {v : pv} (hj : j < n) (h : lget L j = some v) : (j, tv v) ∈ asc L n := List.mem_filterMap.mpr ⟨j, List.mem_range.mpr hj, by rw [h]; rfl⟩
theorem lget_lt : ∀ {L : Lo} {i : Nat} {v : pv}, lget L i = some v → i < L.length
  | [], i, v, h => by simp [lget] at h
  | o :: l, 0, v, h => by simp
  | o :: l, i + 1, v, h => by
    have := lget_lt (L := l) (i := i) (v := v) h
    simp only [List.length_cons]; omega
theorem lrel_asc {K : Nat → Nat} {ls : Array Slot} {nL : Nat} {L : Lo} (h : lrel K ls nL L) : lv_has ls nL (asc L nL) := by
  obtain ⟨h1, h2, h3, h4⟩ := h
  refine ⟨h1, h2, fun q hq => ?_⟩
  obtain ⟨j, hj, hv⟩ := List.mem_filterMap.mp hq
  cases hl : lget L j with
  | none => rw [hl] at hv; cases hv
  | some v =>
    rw [hl] at hv
    cases hv
    exact (h4 j v hl).1
theorem lset_len : ∀ (L : Lo) (i : Nat) (v : pv), (lset L i v).length = L.length
  | [], _, _ => rfl
  | _ :: _, 0, _ => rfl
  | o :: l, i + 1, v => by
    show ((match i with | 0 => lkl o | _ + 1 => o) :: lset l i v).length = _
    rw [List.length_cons, lset_len l i v, List.length_cons]
theorem lset_get : ∀ (L : Lo) (i : Nat) (v : pv) (j : Nat) (w : pv), lget (lset L i v) j = some w → (j = i ∧ w = v) ∨ (j ≠ i ∧ lget L j = some w ∧ ¬ (j + 1 = i ∧ (tv w).category = 2))
  | [], _, _, _, _, h => by simp [lset, lget] at h
  | o :: l, 0, v, j, w, h => by
    cases j with
    | zero => left; exact ⟨rfl, (Option.some.inj h).symm⟩
    | succ j => right; exact ⟨by omega, h, by omega⟩
  | o :: l, i + 1, v, j, w, h => by
    cases j with
    | zero =>
      right
      cases i with
      | zero =>
        have h' : lkl o = some w := h
        refine ⟨by omega, ?_, ?_⟩
        · show o = some w
          cases o with
          | none => cases h'
          | some q =>
            rcases q with q | q | q
            · exact h'
            · cases h'
            · exact h'
        · rintro ⟨-, hc⟩
          cases o with
          | none => cases h'
          | some q =>
            rcases q with q | q | q
            · have e : some (Sum.inl q) = some w := h'
              cases e
              simp [tv, Value.category] at hc
            · cases h'
            · have e : some (Sum.inr (Sum.inr q)) = some w := h'
              cases e
              obtain ⟨t, x⟩ := q
              cases x <;> simp [tv, rv, Value.category] at hc
      | succ i => exact ⟨by omega, h, by omega⟩
    | succ j =>
      have h' : lget (lset l i v) j = some w := h
      rcases lset_get l i v j w h' with ⟨e1, e2⟩ | ⟨e1, e2, e3⟩
      · left; exact ⟨by omega, e2⟩
      · right; exact ⟨by omega, e2, fun q => e3 ⟨by omega, q.2⟩⟩
theorem lset2_get : ∀ (L : Lo) (i : Nat) (v : pv) (j : Nat) (w : pv), lget (lset2 L i v) j = some w → (j = i ∧ w = v) ∨ (j ≠ i ∧ j ≠ i + 1 ∧ lget L j = some w ∧ ¬ (j + 1 = i ∧ (tv w).category = 2))
  | [], _, _, _, _, h => by simp [lset2, lget] at h
  | [_], 0, _, _, _, h => by simp [lset2, lget] at h
  | [_], _ + 1, _, _, _, h => by simp [lset2, lget] at h
  | o :: b :: l, 0, v, j, w, h => by
    match j, h with
    | 0, h => left; exact ⟨rfl, (Option.some.inj h).symm⟩
    | 1, h => cases h
    | j + 2, h => right; exact ⟨by omega, by omega, h, by omega⟩
  | o :: b :: l, i + 1, v, j, w, h => by
    cases j with
    | zero =>
      right
      cases i with
      | zero =>
        have h' : lkl o = some w := h
        refine ⟨by omega, by omega, ?_, ?_⟩
        · show o = some w
          cases o with
          | none => cases h'
          | some q =>
            rcases q with q | q | q
            · exact h'
            · cases h'
            · exact h'
        · rintro ⟨-, hc⟩
          cases o with
          | none => cases h'
          | some q =>
            rcases q with q | q | q
            · have e : some (Sum.inl q) = some w := h'
              cases e
              simp [tv, Value.category] at hc
            · cases h'
            · have e : some (Sum.inr (Sum.inr q)) = some w := h'
              cases e
              obtain ⟨t, x⟩ := q
              cases x <;> simp [tv, rv, Value.category] at hc
      | succ i => exact ⟨by omega, by omega, h, by omega⟩
    | succ j =>
      have h' : lget (lset2 (b :: l) i v) j = some w := h
      rcases lset2_get (b :: l) i v j w h' with ⟨e1, e2⟩ | ⟨e1, e2, e3, e4⟩
      · left; exact ⟨by omega, e2⟩
      · right; exact ⟨by omega, by omega, e3, fun q => e4 ⟨by omega, q.2⟩⟩
theorem lset2_len : ∀ (L : Lo) (i : Nat) (v : pv), i + 1 < L.length → (lset2 L i v).length = L.length
  | [], _, _, h => by simp at h
  | [_], _, _, h => by simp at h
  | _ :: _ :: _, 0, _, _ => rfl
  | o :: b :: l, i + 1, v, h => by
    show (lset2 (b :: l) i v).length + 1 = (b :: l).length + 1
    rw [lset2_len (b :: l) i v (by simp only [List.length_cons] at h ⊢; omega)]
theorem lrel_set {K : Nat → Nat} {ls ls' : Array Slot} {nL : Nat} {L : Lo} {i : Nat} {v : pv} (h : lrel K ls nL L) (hv : okv K v) (hl : lv_has ls' nL ((i, tv v) :: (asc L nL).filter (fun q => !(q.1 == i) && !(q.1 + 1 == i && q.2.category == 2)))) : lrel K ls' nL (lset L i v) := by
  obtain ⟨h1, h2, h3, h4⟩ := h
  refine ⟨hl.1, hl.2.1, by rw [lset_len]; exact h3, fun j w hj => ?_⟩
  rcases lset_get L i v j w hj with ⟨rfl, rfl⟩ | ⟨e1, e2, e3⟩
  · exact ⟨hl.2.2 _ List.mem_cons_self, hv⟩
  · refine ⟨hl.2.2 (j, tv w) (List.mem_cons_of_mem _ (List.mem_filter.mpr ⟨asc_mem (by rw [← h3]; exact lget_lt e2) e2, ?_⟩)), (h4 j w e2).2⟩
    simp only [Bool.and_eq_true, Bool.not_eq_true', beq_eq_false_iff_ne, ne_eq, Bool.and_eq_false_iff]
    refine ⟨e1, ?_⟩
    by_cases q : j + 1 = i
    · right; exact fun z => e3 ⟨q, z⟩
    · left; exact q
theorem lrel_set2 {K : Nat → Nat} {ls ls' : Array Slot} {nL : Nat} {L : Lo} {i : Nat} {v : pv} (h : lrel K ls nL L) (hi : i + 1 < nL) (hv : okv K v) (hl : lv_has ls' nL ((i, tv v) :: (asc L nL).filter (fun q => !(q.1 == i) && (!(q.1 == i + 1) && !(q.1 + 1 == i && q.2.category == 2))))) : lrel K ls' nL (lset2 L i v) := by
  obtain ⟨h1, h2, h3, h4⟩ := h
  refine ⟨hl.1, hl.2.1, by rw [lset2_len _ _ _ (by omega)]; exact h3, fun j w hj => ?_⟩
  rcases lset2_get L i v j w hj with ⟨rfl, rfl⟩ | ⟨e1, e1', e2, e3⟩
  · exact ⟨hl.2.2 _ List.mem_cons_self, hv⟩
  · refine ⟨hl.2.2 (j, tv w) (List.mem_cons_of_mem _ (List.mem_filter.mpr ⟨asc_mem (by rw [← h3]; exact lget_lt e2) e2, ?_⟩)), (h4 j w e2).2⟩
    simp only [Bool.and_eq_true, Bool.not_eq_true', beq_eq_false_iff_ne, ne_eq, Bool.and_eq_false_iff]
    refine ⟨e1, e1', ?_⟩
    by_cases q : j + 1 = i
    · right; exact fun z => e3 ⟨q, z⟩
    · left; exact q
theorem lrel_ext {K K' : Nat → Nat} {ls : Array Slot} {nL : Nat} {L : Lo} (hK : ∀ v, okv K v → okv K' v) (h : lrel K ls nL L) : lrel K' ls nL L := ⟨h.1, h.2.1, h.2.2.1, fun i v hi => ⟨(h.2.2.2 i v hi).1, hK v (h.2.2.2 i v hi).2⟩⟩
theorem okr_ext {K K' : Nat → Nat} {t x : Nat} (hE : Ext K K') (h : okr K t x) : okr K' t x := fun b hb => ⟨by rw [hE b (by rw [(h b hb).1]; exact (h b hb).2)]; exact (h b hb).1, (h b hb).2⟩
theorem okv_ext {K K' : Nat → Nat} {v : pv} (hE : Ext K K') (h : okv K v) : okv K' v := by
  rcases v with v | v | ⟨t, x⟩
  · trivial
  · trivial
  · exact okr_ext hE h
theorem Ext.rf (K : Nat → Nat) : Ext K K := fun _ _ => rfl
theorem Ext.tr {K K' K'' : Nat → Nat} (h : Ext K K') (h' : Ext K' K'') : Ext K K'' := fun a ha => by rw [h' a (by rw [h a ha]; exact ha)]; exact h a ha
