theorem sp_takeOne {d : Nat} {h : AH} {Q : Option Value → AH → Prop} (hd : 13 ≤ d) (r n p st pa : Nat) (pile : List Nat) (cl : List (List (Nat × Nat) × List (Nat × Nat))) (su s : List (Nat × Nat)) (t : Nat → Int32) (hn : n ≤ 400) (hp : p ≤ n) (I : mInv (p, st, pile, pa, cl, su, s)) (H : RdS h r) (R : RdIs h r (p, st, pile, pa, cl, su, s)) (HT : TxS h (r + 1) n t) (T : TxAt h (r + 1) t n (sk t n p)) (e2 : hI h (r + 1) 2 = 0) (k : KT h r n (sk t n p) t (mstep t n (p, st, pile, pa, cl, su, s)) Q) : Calls d nX7_takeOne [.ref r] h (hN h) (hU h) Q := by
  obtain ⟨e, rfl⟩ : ∃ e, d = e + 1 := ⟨d - 1, by omega⟩
  have hs : p ≤ sk t n p := ru_ge
  have hq : sk t n p ≤ n := ru_le hp
  have i1 := I.2.1.1
  have i2 := I.2.1.2.1
  have i5 := I.2.2.1
  have R6 := R.2.2.2.1.2.2
  have ev : ∀ j, j < 10 → ((hI h r 10 = nI j) = (st = j)) := fun j hj => by rw [R6]; exact nI_eq_iff (by omega) (by omega)
  have k2 : KT h r n (sk t n p) t (mstep t n (p, st, pile, pa, cl, su, s)) (fun r2 h1 => rV r2 (RtOf none (hN h) (hU h) Q none h1)) := fun h' f a b c => by
    simp only [rV_none, rt_v]
    exact ⟨f.2.2.1, f.2.2.2.1, k h' f a b c⟩
  have val : (st = 1 ∨ st = 3 ∨ st = 5) → Calls e nX7_takeValue [.ref r, .int (hI h r 10 + 1)] h (hN h) (hU h) (fun r2 h1 => rV r2 (RtOf none (hN h) (hU h) Q none h1)) := fun z => by
    have em : mstep t n (p, st, pile, pa, cl, su, s) = mval t n (sk t n p) (st + 1) pile pa cl su s := by
      unfold mstep
      simp only
      rw [if_neg (by omega), if_pos z]
    rw [em] at k2
    rw [R6, nI_1]
    exact sp_takeValue (by omega) r n p (sk t n p) st (st + 1) pa pile cl su s t hn i2 hq (fun _ => by omega) (by omega) H R HT T e2 k2
  have go : (st = 2 ∨ st = 4 ∨ st = 6 ∨ st = 8) → Calls e nX7_goOn [.ref r] h (hN h) (hU h) (fun r2 h1 => rV r2 (RtOf none (hN h) (hU h) Q none h1)) := fun z => by
    have em : mstep t n (p, st, pile, pa, cl, su, s) = mgo t n (sk t n p) st pile pa cl su s := by
      unfold mstep
      simp only
      rw [if_neg (by omega), if_neg (by omega), if_neg (by omega)]
    rw [em] at k2
    exact sp_goOn (by omega) r n p (sk t n p) st pa pile cl su s t hn hp rfl I z H R HT T e2 k2
  refine wX7_takeOne (by omega) r ?_
  simp only [H.1, true_and]
  refine ⟨fun z => ?_, fun z0 => ⟨fun z => val (Or.inl ((ev 1 (by decide)).mp z)), fun z1 => ⟨fun z => go (Or.inl ((ev 2 (by decide)).mp z)), fun z2 => ⟨fun z => val (Or.inr (Or.inl ((ev 3 (by decide)).mp z))), fun z3 => ⟨fun z => go (Or.inr (Or.inl ((ev 4 (by decide)).mp z))), fun z4 => ⟨fun z => val (Or.inr (Or.inr ((ev 5 (by decide)).mp z))), fun z5 => ⟨fun z => go (Or.inr (Or.inr (Or.inl ((ev 6 (by decide)).mp z)))), fun z6 => ⟨fun z => ?_, fun z7 => go ?_⟩⟩⟩⟩⟩⟩⟩⟩
  · have z : st = 0 := (ev 0 (by decide)).mp z
    subst z
    exact sp_takeRun (by omega) r n p pa pile cl su s t hn hp I H R HT T e2 k2
  · have z : st = 7 := (ev 7 (by decide)).mp z
    subst z
    exact sp_takeFact (by omega) r n p pa pile cl su s t hn hp I H R HT T e2 k2
  · have y0 : ¬ st = 0 := fun c => z0 ((ev 0 (by decide)).mpr c)
    have y1 : ¬ st = 1 := fun c => z1 ((ev 1 (by decide)).mpr c)
    have y2 : ¬ st = 2 := fun c => z2 ((ev 2 (by decide)).mpr c)
    have y3 : ¬ st = 3 := fun c => z3 ((ev 3 (by decide)).mpr c)
    have y4 : ¬ st = 4 := fun c => z4 ((ev 4 (by decide)).mpr c)
    have y5 : ¬ st = 5 := fun c => z5 ((ev 5 (by decide)).mpr c)
    have y6 : ¬ st = 6 := fun c => z6 ((ev 6 (by decide)).mpr c)
    have y7 : ¬ st = 7 := fun c => z7 ((ev 7 (by decide)).mpr c)
    omega
