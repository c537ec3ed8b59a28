/-! ===== ENGINE, pure half: values, heap, steps, blocks ===== -/
abbrev pv : Type := Int32 ⊕ (Int64 ⊕ (Nat × Nat))
abbrev Lo : Type := List (Option pv)
abbrev hp : Type := (Nat → Nat → Int32) × (Nat → Nat → Nat) × (Nat → Nat → Int32) × (Nat → Nat) × (Nat → Nat → Nat) × Nat
def hfI (h : hp) : Nat → Nat → Int32 := h.1
def hfR (h : hp) : Nat → Nat → Nat := h.2.1
def haI (h : hp) : Nat → Nat → Int32 := h.2.2.1
def haL (h : hp) : Nat → Nat := h.2.2.2.1
def haR (h : hp) : Nat → Nat → Nat := h.2.2.2.2.1
def hz (h : hp) : Nat := h.2.2.2.2.2
def up2 {α : Type} (g : Nat → Nat → α) (f x : Nat) (v : α) : Nat → Nat → α := fun f' x' => if f' = f then (if x' = x then v else g f' x') else g f' x'
def wfI (h : hp) (f x : Nat) (v : Int32) : hp := (up2 h.1 f x v, h.2)
def wfR (h : hp) (f x v : Nat) : hp := (h.1, up2 h.2.1 f x v, h.2.2)
def waI (h : hp) (x : Nat) (g : Nat → Int32) : hp := (h.1, h.2.1, va_up h.2.2.1 x g, h.2.2.2)
def waR (h : hp) (x : Nat) (g : Nat → Nat) : hp := (h.1, h.2.1, h.2.2.1, h.2.2.2.1, va_up h.2.2.2.2.1 x g, h.2.2.2.2.2)
def wobj (h : hp) (x : Nat) : hp := (fun f y => if y = x then 0 else h.1 f y, fun f y => if y = x then 0 else h.2.1 f y, h.2.2.1, h.2.2.2.1, h.2.2.2.2.1, x + 1)
def warr (h : hp) (x n : Nat) : hp := (h.1, h.2.1, va_up h.2.2.1 x (fun _ => 0), va_up h.2.2.2.1 x n, va_up h.2.2.2.2.1 x (fun _ => 0), x + 1)
/-- a method: its name, bytes, locals, return type -/
abbrev MI : Type := MethodName × ByteArray × Nat × Option FieldType
abbrev Nx : Type := Nat → Lo → List pv → hp → Nat → Nat → Prop
abbrev Rt : Type := Option pv → hp → Prop
/-- what a call's contract is, told from outside (the second half of the engine says it) -/
abbrev Cl : Type := Nat → MI → Nat → Nat → List pv → hp → Rt → Prop
abbrev Step : Type := Cl → Nat → Nat → Nat → Rt → Nx → Lo → List pv → hp → Nat → Nat → Prop
def lget : Lo → Nat → Option pv
  | [], _ => none
  | o :: _, 0 => o
  | _ :: l, i + 1 => lget l i
def lkl : Option pv → Option pv
  | some (.inr (.inl _)) => none
  | o => o
def lset : Lo → Nat → pv → Lo
  | [], _, _ => []
  | _ :: l, 0, v => some v :: l
  | o :: l, i + 1, v => (match i with | 0 => lkl o | _ + 1 => o) :: lset l i v
def lset2 : Lo → Nat → pv → Lo
  | [], _, _ => []
  | [_], _, _ => []
  | _ :: _ :: l, 0, v => some v :: none :: l
  | o :: b :: l, i + 1, v => (match i with | 0 => lkl o | _ + 1 => o) :: lset2 (b :: l) i v
def largs : List pv → Nat → Lo
  | [], n => List.replicate n none
  | _ :: _, 0 => []
  | .inr (.inl v) :: t, n + 1 => (match n with | 0 => [] | k + 1 => some (.inr (.inl v)) :: none :: largs t k)
  | .inl v :: t, n + 1 => some (.inl v) :: largs t n
  | .inr (.inr v) :: t, n + 1 => some (.inr (.inr v)) :: largs t n
def sw : List pv → Nat
  | [] => 0
  | .inr (.inl _) :: t => sw t + 2
  | .inl _ :: t => sw t + 1
  | .inr (.inr _) :: t => sw t + 1
def s_no : Step := fun _ _ _ _ _ _ _ _ _ _ _ => False
-- steps; n: the next pc
def s_ic (n : Nat) (v : Int32) : Step := fun _ _ _ _ _ nx L S h cu su => nx n L (.inl v :: S) h cu su
def s_lc (n : Nat) (v : Int64) : Step := fun _ _ _ _ _ nx L S h cu su => nx n L (.inr (.inl v) :: S) h cu su
def s_null (n : Nat) : Step := fun _ _ _ _ _ nx L S h cu su => nx n L (.inr (.inr (0, 0)) :: S) h cu su
def s_ild (n i : Nat) : Step := fun _ _ _ _ _ nx L S h cu su => match lget L i with | some (.inl x) => nx n L (.inl x :: S) h cu su | _ => False
def s_lld (n i : Nat) : Step := fun _ _ _ _ _ nx L S h cu su => match lget L i with | some (.inr (.inl x)) => nx n L (.inr (.inl x) :: S) h cu su | _ => False
def s_ald (n i : Nat) : Step := fun _ _ _ _ _ nx L S h cu su => match lget L i with | some (.inr (.inr x)) => nx n L (.inr (.inr x) :: S) h cu su | _ => False
def s_ist (n i : Nat) : Step := fun _ _ _ _ _ nx L S h cu su => match S with | .inl x :: S => nx n (lset L i (.inl x)) S h cu su | _ => False
def s_lst (n i : Nat) : Step := fun _ _ _ _ _ nx L S h cu su => match S with | .inr (.inl x) :: S => nx n (lset2 L i (.inr (.inl x))) S h cu su | _ => False
def s_ast (n i : Nat) : Step := fun _ _ _ _ _ nx L S h cu su => match S with | .inr (.inr x) :: S => nx n (lset L i (.inr (.inr x))) S h cu su | _ => False
def s_inc (n i : Nat) (v : Int32) : Step := fun _ _ _ _ _ nx L S h cu su => match lget L i with | some (.inl x) => nx n (lset L i (.inl (x + v))) S h cu su | _ => False
def s_i1 (n : Nat) (f : Int32 → Int32) : Step := fun _ _ _ _ _ nx L S h cu su => match S with | .inl a :: S => nx n L (.inl (f a) :: S) h cu su | _ => False
def s_i2 (n : Nat) (f : Int32 → Int32 → Int32) : Step := fun _ _ _ _ _ nx L S h cu su => match S with | .inl b :: .inl a :: S => nx n L (.inl (f a b) :: S) h cu su | _ => False
def s_iq (n : Nat) (f : Int32 → Int32 → Int32) : Step := fun _ _ _ _ _ nx L S h cu su => match S with | .inl b :: .inl a :: S => ¬ b = 0 ∧ nx n L (.inl (f a b) :: S) h cu su | _ => False
def s_l2 (n : Nat) (f : Int64 → Int64 → Int64) : Step := fun _ _ _ _ _ nx L S h cu su => match S with | .inr (.inl b) :: .inr (.inl a) :: S => nx n L (.inr (.inl (f a b)) :: S) h cu su | _ => False
def s_lq (n : Nat) (f : Int64 → Int64 → Int64) : Step := fun _ _ _ _ _ nx L S h cu su => match S with | .inr (.inl b) :: .inr (.inl a) :: S => ¬ b = 0 ∧ nx n L (.inr (.inl (f a b)) :: S) h cu su | _ => False
def s_lcmp (n : Nat) : Step := fun _ _ _ _ _ nx L S h cu su => match S with | .inr (.inl b) :: .inr (.inl a) :: S => nx n L (.inl (lg_cmp a b) :: S) h cu su | _ => False
def s_i2l (n : Nat) : Step := fun _ _ _ _ _ nx L S h cu su => match S with | .inl a :: S => nx n L (.inr (.inl a.toInt64) :: S) h cu su | _ => False
def s_l2i (n : Nat) : Step := fun _ _ _ _ _ nx L S h cu su => match S with | .inr (.inl a) :: S => nx n L (.inl a.toInt32 :: S) h cu su | _ => False
def s_dup (n : Nat) : Step := fun _ _ _ _ _ nx L S h cu su => match S with | .inl a :: S => nx n L (.inl a :: .inl a :: S) h cu su | .inr (.inr a) :: S => nx n L (.inr (.inr a) :: .inr (.inr a) :: S) h cu su | _ => False
def s_dup2 (n : Nat) : Step := fun _ _ _ _ _ nx L S h cu su => match S with | .inl a :: .inr (.inr b) :: S => nx n L (.inl a :: .inr (.inr b) :: .inl a :: .inr (.inr b) :: S) h cu su | _ => False
def s_pop (n : Nat) : Step := fun _ _ _ _ _ nx L S h cu su => match S with | .inl _ :: S => nx n L S h cu su | .inr (.inr _) :: S => nx n L S h cu su | _ => False
def s_if (n t : Nat) (c : Int32 → Prop) : Step := fun _ _ _ _ _ nx L S h cu su => match S with | .inl a :: S => (c a → nx t L S h cu su) ∧ (¬ c a → nx n L S h cu su) | _ => False
def s_cmp (n t : Nat) (c : Int32 → Int32 → Prop) : Step := fun _ _ _ _ _ nx L S h cu su => match S with | .inl b :: .inl a :: S => (c a b → nx t L S h cu su) ∧ (¬ c a b → nx n L S h cu su) | _ => False
def s_ifn (n t : Nat) : Step := fun _ _ _ _ _ nx L S h cu su => match S with | .inr (.inr a) :: S => (a.2 = 0 → nx t L S h cu su) ∧ (¬ a.2 = 0 → nx n L S h cu su) | _ => False
def s_ifnn (n t : Nat) : Step := fun _ _ _ _ _ nx L S h cu su => match S with | .inr (.inr a) :: S => (a.2 = 0 → nx n L S h cu su) ∧ (¬ a.2 = 0 → nx t L S h cu su) | _ => False
def s_goto (t : Nat) : Step := fun _ _ _ _ _ nx L S h cu su => nx t L S h cu su
def swc (x : Int32) (k : Nat → Prop) (d : Nat) : List (Int32 × Nat) → Prop
  | [] => k d
  | (v, t) :: r => (x = v → k t) ∧ (¬ x = v → swc x k d r)
def s_sw (cs : List (Int32 × Nat)) (d : Nat) : Step := fun _ _ _ _ _ nx L S h cu su => match S with | .inl a :: S => swc a (fun t => nx t L S h cu su) d cs | _ => False
def s_ret : Step := fun _ _ _ _ kk _ _ S h _ _ => match S with | [.inl v] => kk (some (.inl v)) h | _ => False
def s_zret : Step := fun _ _ _ _ kk _ _ S h _ _ => match S with | [.inl v] => (v = 0 ∨ v = 1) ∧ kk (some (.inl v)) h | _ => False
def s_lret : Step := fun _ _ _ _ kk _ _ S h _ _ => match S with | [.inr (.inl v)] => kk (some (.inr (.inl v))) h | _ => False
def s_vret : Step := fun _ _ _ _ kk _ _ S h _ _ => match S with | [] => kk none h | _ => False
-- fields: C the kind of the object, f the field
def s_gi (n C f : Nat) : Step := fun _ _ _ _ _ nx L S h cu su => match S with | .inr (.inr (t, x)) :: S => bif Nat.beq t C then (if x = 0 then False else nx n L (.inl (hfI h f x) :: S) h cu su) else False | _ => False
def s_gr (n C f r : Nat) : Step := fun _ _ _ _ _ nx L S h cu su => match S with | .inr (.inr (t, x)) :: S => bif Nat.beq t C then (if x = 0 then False else nx n L (.inr (.inr (r, hfR h f x)) :: S) h cu su) else False | _ => False
def s_pi (n C f : Nat) : Step := fun _ _ _ _ _ nx L S h cu su => match S with | .inl v :: .inr (.inr (t, x)) :: S => bif Nat.beq t C then (if x = 0 then False else nx n L S (wfI h f x v) cu su) else False | _ => False
def s_pr (n C f r : Nat) : Step := fun _ _ _ _ _ nx L S h cu su => match S with | .inr (.inr (q, v)) :: .inr (.inr (t, x)) :: S => bif Nat.beq t C && Nat.beq q r then (if x = 0 then False else nx n L S (wfR h f x v) cu su) else False | _ => False
def s_gs (n f : Nat) : Step := fun _ _ _ _ _ nx L S h cu su => nx n L (.inr (.inr (25, hfR h f 0)) :: S) h cu su
-- arrays
def s_iald (n : Nat) : Step := fun _ _ _ _ _ nx L S h cu su => match S with | .inl i :: .inr (.inr (t, x)) :: S => bif Nat.beq t 20 || Nat.beq t 25 then (if x = 0 then False else vp_in i (haL h x) ∧ nx n L (.inl (haI h x i.toNatClampNeg) :: S) h cu su) else False | _ => False
def s_zald (n : Nat) : Step := fun _ _ _ _ _ nx L S h cu su => match S with | .inl i :: .inr (.inr (t, x)) :: S => bif Nat.beq t 21 then (if x = 0 then False else vp_in i (haL h x) ∧ nx n L (.inl (haI h x i.toNatClampNeg) :: S) h cu su) else False | _ => False
def s_iast (n : Nat) : Step := fun _ _ _ _ _ nx L S h cu su => match S with | .inl v :: .inl i :: .inr (.inr (t, x)) :: S => bif Nat.beq t 20 then (if x = 0 then False else vp_in i (haL h x) ∧ nx n L S (waI h x (upd (haI h x) i.toNatClampNeg v)) cu su) else False | _ => False
def s_zast (n : Nat) : Step := fun _ _ _ _ _ nx L S h cu su => match S with | .inl v :: .inl i :: .inr (.inr (t, x)) :: S => bif Nat.beq t 21 then (if x = 0 then False else vp_in i (haL h x) ∧ nx n L S (waI h x (upd (haI h x) i.toNatClampNeg (vp_nar .boolean v))) cu su) else False | _ => False
def s_aald (n q r : Nat) : Step := fun _ _ _ _ _ nx L S h cu su => match S with | .inl i :: .inr (.inr (t, x)) :: S => bif Nat.beq t q then (if x = 0 then False else vp_in i (haL h x) ∧ nx n L (.inr (.inr (r, haR h x i.toNatClampNeg)) :: S) h cu su) else False | _ => False
def s_aast (n q r : Nat) : Step := fun _ _ _ _ _ nx L S h cu su => match S with | .inr (.inr (u, v)) :: .inl i :: .inr (.inr (t, x)) :: S => bif Nat.beq t q && (Nat.beq u r || Nat.beq v 0) then (if x = 0 then False else vp_in i (haL h x) ∧ nx n L S (waR h x (va_up (haR h x) i.toNatClampNeg v)) cu su) else False | _ => False
def s_len (n : Nat) : Step := fun _ _ _ _ _ nx L S h cu su => match S with | .inr (.inr (t, x)) :: S => bif Nat.beq t 20 then (if x = 0 then False else nx n L (.inl (nI (haL h x)) :: S) h cu su) else False | _ => False
/-- a new array of kind t -/
def s_newa (n t : Nat) : Step := fun _ _ mc ms _ nx L S h cu su => match S with | .inl k :: S => (¬ k < 0 ∧ k ≤ 1000) ∧ (cu + 1 ≤ mc ∧ su + k.toNatClampNeg ≤ ms) ∧ ∀ x : Nat, hz h ≤ x → nx n L (.inr (.inr (t, x)) :: S) (warr h x k.toNatClampNeg) (cu + 1) (su + k.toNatClampNeg) | _ => False
def s_new (n C N : Nat) : Step := fun _ _ mc ms _ nx L S h cu su => (cu + 1 ≤ mc ∧ su + N ≤ ms) ∧ ∀ x : Nat, hz h ≤ x → nx n L (.inr (.inr (C, x)) :: S) (wobj h x) (cu + 1) (su + N)
def s_oinit (n : Nat) : Step := fun _ d _ _ _ nx L S h cu su => match S with | .inr (.inr (_, x)) :: S => bif Nat.ble (sw S) 8 then (if x = 0 then False else (match d with | 0 => False | _ + 1 => nx n L S h cu su)) else False | _ => False
def s_mm (n : Nat) (f : Int32 → Int32 → Int32) : Step := fun _ d _ _ _ nx L S h cu su => match S with | .inl b :: .inl a :: S => bif Nat.ble (sw S) 8 then (match d with | 0 => False | _ + 1 => nx n L (.inl (f a b) :: S) h cu su) else False | _ => False
def s_acopy (n : Nat) : Step := fun _ d _ _ _ nx L S h cu su => match S with
  | .inl k :: .inl j :: .inr (.inr (t2, y)) :: .inl i :: .inr (.inr (t1, x)) :: S => bif (Nat.beq t1 20 && Nat.beq t2 20) && Nat.ble (sw S) 8 then (if x = 0 then False else if y = 0 then False else (match d with | 0 => False | _ + 1 => (¬ i < 0 ∧ ¬ j < 0 ∧ ¬ k < 0 ∧ i.toNatClampNeg + k.toNatClampNeg ≤ haL h x ∧ j.toNatClampNeg + k.toNatClampNeg ≤ haL h y) ∧ nx n L S (waI h y (va_cpy (haI h x) (haI h y) i.toNatClampNeg j.toNatClampNeg k.toNatClampNeg)) cu su)) else False
  | _ => False
-- calls: k the number of arguments without the receiver
def cgo (cl : Cl) (d mc ms cu su : Nat) (y : MI) (mc' ms' : Nat) (args : List pv) (h : hp) (K : Nat → Nat → Rt) : Prop :=
  match d with
  | 0 => False
  | d' + 1 => match mc' with
    | 0 => (match ms' with | 0 => cl d' y 0 0 args h (K cu su) | _ + 1 => False)
    | c + 1 => (cu + (c + 1) ≤ mc ∧ su + ms' ≤ ms) ∧ cl d' y (c + 1) ms' args h (K (cu + (c + 1)) (su + ms'))
def s_cS (n : Nat) (y : MI) (k mc' ms' : Nat) : Step := fun cl d mc ms _ nx L S h cu su => bif Nat.ble (sw (S.drop k)) 8 && Nat.beq (S.take k).length k then
  cgo cl d mc ms cu su y mc' ms' (S.take k).reverse h (fun cu su v h' => nx n L (v.toList ++ S.drop k) h' cu su) else False
def s_cV (n : Nat) (y : MI) (C k mc' ms' : Nat) : Step := fun cl d mc ms _ nx L S h cu su => bif Nat.ble (sw (S.drop (k + 1))) 8 && Nat.beq (S.take k).length k then (match S.drop k with
  | .inr (.inr (t, x)) :: _ => bif Nat.beq t C then (if x = 0 then False else cgo cl d mc ms cu su y mc' ms' (.inr (.inr (t, x)) :: (S.take k).reverse) h (fun cu su v h' => nx n L (v.toList ++ S.drop (k + 1)) h' cu su)) else False
  | _ => False) else False
/-- the block: from pc, till a cut -/
def blk (P : Nat → Step) (cut : Nat → Bool) (Wc : Nx) (cl : Cl) (d mc ms : Nat) (kk : Rt) : Nat → Nx
  | 0 => fun _ _ _ _ _ _ => False
  | n + 1 => fun pc L S h cu su => bif cut pc then Wc pc L S h cu su else P pc cl d mc ms kk (blk P cut Wc cl d mc ms kk n) L S h cu su
theorem nz {x : Nat} {B : Prop} (h : x ≠ 0) (b : B) : (if x = 0 then False else B) := by rw [if_neg h]; exact b
