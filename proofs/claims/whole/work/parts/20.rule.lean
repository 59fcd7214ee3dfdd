/-! a rule's steps: kind and number, as the reference has them: 0 number, 1 word, 2 + 3 - 4 < 5 <= 6 = 7 >= 8 > 9 not 10 and 11 or 13 * 14 / 15 % -/
def jn (k : Nat) (a b : Int64) : Int64 := match k with
  | 2 => a + b
  | 3 => a - b
  | 13 => a * b
  | 14 => if b = 0 then 0 else a / b
  | 15 => if b = 0 then 0 else a - a / b * b
  | 4 => if a < b then 1 else 0
  | 5 => if a ≤ b then 1 else 0
  | 6 => if a = b then 1 else 0
  | 7 => if b ≤ a then 1 else 0
  | 8 => if b < a then 1 else 0
  | 10 => a &&& b
  | _ => a ||| b
def isOp (k : Nat) : Bool := [2, 3, 4, 5, 6, 7, 8, 10, 11, 13, 14, 15].contains k
def ev1 (wd : Nat → Int64) (q : Nat × Nat) (s : List Int64) : List Int64 := match q.1 with
  | 0 => (nI q.2).toInt64 :: s
  | 1 => wd q.2 :: s
  | 9 => match s with
    | a :: r => (1 - a) :: r
    | [] => []
  | k => match s with
    | b :: a :: r => jn k a b :: r
    | s => s
def evs (wd : Nat → Int64) : List (Nat × Nat) → List Int64 → List Int64
  | [], s => s
  | q :: r, s => evs wd r (ev1 wd q s)
/-- how the class writes a step -/
def cdI (q : Nat × Nat) : Int32 := match q.1 with
  | 0 => nI q.2
  | 1 => -1 - nI q.2
  | 2 => -20
  | 3 => -21
  | 13 => -22
  | 14 => -23
  | 15 => -24
  | 4 => -25
  | 5 => -26
  | 6 => -27
  | 7 => -28
  | 8 => -29
  | 10 => -30
  | 9 => -32
  | _ => -31
def opOk (q : Nat × Nat) : Prop := (q.1 = 0 ∧ q.2 < 100000) ∨ (q.1 = 1 ∧ q.2 < 12) ∨ q.1 = 9 ∨ isOp q.1 = true
/-- the kinds on the pile: true a truth, false a number -/
def tst (k : Nat) (t : List Bool) : Option (List Bool) := match k with
  | 0 => some (false :: t)
  | 1 => some (false :: t)
  | 9 => match t with
    | true :: r => some (true :: r)
    | _ => none
  | 10 => match t with
    | true :: true :: r => some (true :: r)
    | _ => none
  | 11 => match t with
    | true :: true :: r => some (true :: r)
    | _ => none
  | k => match t with
    | false :: false :: r => some ((4 ≤ k && k ≤ 8) :: r)
    | _ => none
def tys : List (Nat × Nat) → List Bool → Option (List Bool)
  | [], t => some t
  | q :: r, t => match tst q.1 t with
    | some t' => tys r t'
    | none => none
def vals : List (Nat × Nat) → Nat
  | [] => 0
  | q :: r => (if q.1 ≤ 1 then 1 else 0) + vals r
theorem isOp_cases {k : Nat} (h : isOp k = true) : k = 2 ∨ k = 3 ∨ k = 4 ∨ k = 5 ∨ k = 6 ∨ k = 7 ∨ k = 8 ∨ k = 10 ∨ k = 11 ∨ k = 13 ∨ k = 14 ∨ k = 15 := by
  simp only [isOp, List.contains_cons, Bool.or_eq_true, beq_iff_eq, List.contains_nil, or_false, Bool.false_eq_true] at h
  omega
theorem lg0 (a b : Int64) : (lg_cmp a b = 0) = (a = b) := propext (lg_cmp_eq a b)
theorem lgle (a b : Int64) : (lg_cmp a b ≤ 0) = (a ≤ b) := propext (lg_cmp_le a b)
theorem lglt (a b : Int64) : (lg_cmp a b < 0) = (a < b) := propext (lg_cmp_lt a b)
theorem lgge (a b : Int64) : (0 ≤ lg_cmp a b) = (b ≤ a) := propext (lg_cmp_ge a b)
theorem lggt (a b : Int64) : (0 < lg_cmp a b) = (b < a) := propext (lg_cmp_gt a b)
theorem i64_le_of {a b : Int64} (h : ¬ a < b) : b ≤ a := Int64.not_lt.mp h
theorem i64_lt_of {a b : Int64} (h : ¬ a ≤ b) : b < a := Int64.not_le.mp h
theorem sp_joined {d : Nat} {h : AH} {Q : Option Value → AH → Prop} (hd : 5 ≤ d) (q : Nat × Nat) (a b : Int64) (ho : isOp q.1 = true) (k : Q (some (.long (jn q.1 a b))) h) : Calls d nX6_joined [.int (cdI q), .long a, .long b] h (hN h) (hU h) Q := by
  obtain ⟨e, rfl⟩ : ∃ e, d = e + 1 := ⟨d - 1, by omega⟩
  refine wX6_joined (by omega) (cdI q) a b ?_
  obtain ⟨q1, q2⟩ := q
  simp only at ho k
  rcases isOp_cases ho with rfl | rfl | rfl | rfl | rfl | rfl | rfl | rfl | rfl | rfl | rfl | rfl
  all_goals simp (config := { decide := true }) only [cdI, rt_i, rt_b0, rt_b1, rt_v, rt_l, rt_o, rt_a, rV_none, rI_some, rL_some, rR_some, rT_some, true_and, lg0, lgle, lglt, lgge, lggt, and_true, not_true_eq_false, not_false_eq_true, false_implies, true_implies, forall_const, implies_true]
  all_goals simp only [jn] at k
  all_goals first
    | exact k
    | (refine ⟨fun z => ?_, fun z => ?_⟩ <;> first
        | (rwa [if_pos z] at k; done)
        | (rwa [if_neg z] at k; done)
        | (rwa [if_neg (Int64.not_le.mpr z)] at k; done)
        | (rwa [if_neg (Int64.not_lt.mpr z)] at k; done)
        | (rwa [if_pos (i64_le_of z)] at k; done)
        | (rwa [if_pos (i64_lt_of z)] at k; done)
        | (exact ⟨z, by rwa [if_neg z] at k⟩))
