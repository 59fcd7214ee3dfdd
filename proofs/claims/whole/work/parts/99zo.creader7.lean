theorem brc_le (l : List Nat) : brc l ≤ l.length := by
  induction l with
  | nil => exact Nat.le_refl _
  | cons k l ih => rw [brc_c]; simp; split <;> omega
theorem tk_ne {op : Nat} (z : 5 ≤ tgO op) : op ≠ 9 ∧ op ≠ 12 ∧ op ≠ 16 := by
  refine ⟨fun c => ?_, fun c => ?_, fun c => ?_⟩ <;> rw [c] at z <;> exact absurd z (by decide)
theorem rst3_lt {pile : List Nat} (hP : pOk 4 pile) : (rstL 3 pile).length < 35 := by
  obtain ⟨A, G, B, eP, hA, hB, hd', hG, hB0, hA0⟩ := hP
  have g0 := hG.2 (by omega)
  subst g0
  rw [List.append_nil] at eP
  have ga := hA.tg
  have x1 := rst_ap (th := 3) (Y := B) (X := A) (fun k hk => by have := (ga.2 k hk).1; omega)
  have x2 := rst_hd (th := 3) hB.hd
  rw [← eP, x2.1] at x1
  rw [x1.1]
  have := bLen hB
  split at this
  · omega
  · split at this <;> omega
theorem len_of {n m : Nat} (h : n + 1 ≤ m) : n < m := h
theorem sp_goOn {d : Nat} {h : AH} {Q : Option Value → AH → Prop} (hd : 12 ≤ d) (r n p q st pa : Nat) (pile : List Nat) (cl : List (List (Nat × Nat) × List (Nat × Nat))) (su s : List (Nat × Nat)) (t : Nat → Int32) (hn : n ≤ 400) (hp : p ≤ n) (hqs : sk t n p = q) (I : mInv (p, st, pile, pa, cl, su, s)) (hst : st = 2 ∨ st = 4 ∨ st = 6 ∨ st = 8) (H : RdS h r) (R : RdIs h r (p, st, pile, pa, cl, su, s)) (HT : TxS h (r + 1) n t) (T : TxAt h (r + 1) t n q) (e2 : hI h (r + 1) 2 = 0) (k : KT h r n q t (mgo t n q st pile pa cl su s) Q) : Calls d nX7_goOn [.ref r] h (hN h) (hU h) Q := by
  obtain ⟨e, rfl⟩ : ∃ e, d = e + 1 := ⟨d - 1, by omega⟩
  have d4 : 4 ≤ e := by omega
  have d5 : 5 ≤ e := by omega
  have d6 : 6 ≤ e := by omega
  have d8 : 8 ≤ e := by omega
  have d9 : 9 ≤ e := by omega
  have d10 : 10 ≤ e := by omega
  have hq : q ≤ n := hqs ▸ ru_le hp
  have hq4 : q ≤ 400 := by omega
  have p4 : p ≤ 400 := by omega
  have hall := I.1.all
  have pres : ∀ σ', mgo t n q st pile pa cl su s = .inr σ' → mInv σ' := fun σ' em => mgo_inv I hst (hqs.symm ▸ em) hp
  have hP := I.1
  have i2 : pa ≤ 60 := I.2.1.2.1
  have c11 : cl.length ≤ 11 := I.2.1.2.2.2 (by omega)
  have ho : (flK cl ++ su ++ s).length + pile.length ≤ 400 := by have := I.2.2.1; omega
  have ty : tys s [] = some (tyS st pile) := I.2.2.2.2.1.2.2.1 (by omega)
  have su2 : st = 2 → su = [] := fun z => I.2.2.2.2.1.2.1 (by omega)
  have R6 := R.2.2.2.1.2.2
  have R2 := R.2.1
  obtain ⟨t2, t16⟩ := tkO_r t n q
  have s2 : (hI h r 10 = (2 : Int32)) = (st = 2) := by rw [R6]; exact nI_eq_iff (b := 2) (by omega) (by decide)
  have s4 : (hI h r 10 = (4 : Int32)) = (st = 4) := by rw [R6]; exact nI_eq_iff (b := 4) (by omega) (by decide)
  have s6 : (hI h r 10 = (6 : Int32)) = (st = 6) := by rw [R6]; exact nI_eq_iff (b := 6) (by omega) (by decide)
  have s8 : (hI h r 10 = (8 : Int32)) = (st = 8) := by rw [R6]; exact nI_eq_iff (b := 8) (by omega) (by decide)
  have bb : brc pile < 2 ^ 31 := by have := brc_le pile; have := hall.1; omega
  have b0 : (hI h r 7 = (0 : Int32)) = (brc pile = 0) := by rw [R2.2]; exact nI_eq_iff (b := 0) bb (by decide)
  have bl : (hI h r 7 ≤ (0 : Int32)) = (brc pile ≤ 0) := by rw [R2.2]; exact nI_le_iff (b := 0) bb (by decide)
  have g68 : (st = 6 ∨ st = 8) → 3 ≤ st := fun z => by omega
  have es1 : nI st - 1 = nI (st - 1) := pk_sub (b := 1) (show 1 ≤ st by omega)
  have st31 : 3 ≤ st - 1 → 3 ≤ st := fun z => by omega
  have t17 : tkO t n q < 17 := by omega
  have t15 : tkO t n q ≠ 16 → tkO t n q < 16 := fun z => by omega
  have pc := pc_31 (tkO t n q) t17 t2
  have t4 := tgI_4 (tkO t n q) t17 t2
  have t5 := tgI_5 (tkO t n q) t17 t2
  have g5 : 5 ≤ tgO (tkO t n q) → 1 ≤ tgO (tkO t n q) := fun z => by omega
  have w10 : (tkO t n q = 10 ∨ tkO t n q = 11) → 1 ≤ tgO (tkO t n q) ∧ tkO t n q < 16 ∧ tkO t n q ≠ 9 ∧ tkO t n q ≠ 12 := fun z => by
    refine ⟨?_, by omega, by omega, by omega⟩
    rcases z with c | c <;> rw [c] <;> decide
  clear hst
  have refu : mgo t n q st pile pa cl su s = .inl (rfF 0 q 0, []) → Calls e nX8_refuse [.ref (r + 1), .int (nI 0)] h (hN h) (hU h) (fun r2 h1 => rV r2 (RtOf none (hN h) (hU h) Q none h1)) := fun em => by
    rw [em] at k
    refine sp_refK d5 r n q 0 t hq4 (by decide) HT T e2 (fun h' f a b c => ?_)
    rw [rV_none, rt_v]
    exact ⟨f.2.2.1, f.2.2.2.1, k h' f a b c⟩
  have endc : (((st = 6 ∨ st = 8) ∧ brc pile = 0) ∨ st = 2) → mgo t n q st pile pa cl su s = (if tkK t n q = 0 then .inl (0, cl ++ [if st = 2 then (s ++ emL 0 pile, []) else (su, s ++ emL 0 pile)]) else .inr (tkE t n q, 0, [], pa, cl ++ [if st = 2 then (s ++ emL 0 pile, []) else (su, s ++ emL 0 pile)], [], [])) → Calls e nX7_endClause [.ref r] h (hN h) (hU h) (fun r2 h1 => rV r2 (RtOf none (hN h) (hU h) Q none h1)) := fun c2 em => by
    rw [em] at k
    refine sp_endClause d9 r n p q st pa pile cl su s t p4 I c2 H R HT T e2 (fun h' f a b c => ?_)
    rw [rV_none, rt_v]
    exact ⟨f.2.2.1, f.2.2.2.1, k h' f a b c⟩
  unfold mgo at k refu endc pres
  have r189 : ¬ (5 ≤ tgO (tkO t n q) ∧ st ≠ 8) → ¬ (tgO (tkO t n q) = 4 ∧ st = 4) → ¬ ((tkO t n q = 10 ∨ tkO t n q = 11) ∧ (st = 6 ∨ st = 8)) → ¬ (isWd t n q 14 ∧ st = 2) → ¬ ((tkK t n q = 3 ∧ tkV t n q = 93) ∧ (st = 6 ∨ st = 8) ∧ 0 < brc pile) → Reach e nX7_goOn (189, [.ref r, .float 0, .float 0, .int (bI (st = 6 ∨ st = 8))], []) h (hN h) (hU h) Q := fun n1 n2 n3 n4 n5 => by
    rw [if_neg n1, if_neg n2, if_neg n3, if_neg n4, if_neg n5] at refu endc
    have r207 : ceQ t n q → ¬ ((st = 6 ∨ st = 8) ∧ brc pile = 0) → Reach e nX7_goOn (207, [.ref r, .float 0, .float 0, .float 0], []) h (hN h) (hU h) Q := fun c1 c2 => by
      refine wX7_goOn_207 d4 r ?_
      simp only [H.1, H.2.1, HT.1, s2, true_and]
      exact ⟨fun z => refu (if_neg (fun y => y.2.elim c2 z)), fun z => endc (Or.inr z) (if_pos ⟨c1, Or.inr z⟩)⟩
    refine wX7_goOn_189 d4 r _ ?_
    simp only [H.1, true_and]
    refine sp_clauseEnd d6 r n q t H HT T ?_
    simp only [rI_some, bI0, H.1, H.2.1, HT.1, b0, true_and]
    refine ⟨fun z => refu (if_neg (fun y => z y.1)), fun z => ?_⟩
    have z := Decidable.not_not.mp z
    exact ⟨fun y => r207 z (fun x => y x.1), fun y => ⟨fun x => endc (Or.inl ⟨Decidable.not_not.mp y, x⟩) (if_pos ⟨z, Or.inl ⟨Decidable.not_not.mp y, x⟩⟩), fun x => r207 z (fun w => x w.2)⟩⟩
  have r159 : ¬ (5 ≤ tgO (tkO t n q) ∧ st ≠ 8) → ¬ (tgO (tkO t n q) = 4 ∧ st = 4) → ¬ ((tkO t n q = 10 ∨ tkO t n q = 11) ∧ (st = 6 ∨ st = 8)) → ¬ (isWd t n q 14 ∧ st = 2) → Reach e nX7_goOn (159, [.ref r, .float 0, .float 0, .int (bI (st = 6 ∨ st = 8))], []) h (hN h) (hU h) Q := fun n1 n2 n3 n4 => by
    refine wX7_goOn_159 d4 r _ ?_
    simp only [H.1, H.2.1, HT.1, true_and]
    refine sp_isSign d5 (r + 1) n q 93 t HT T ?_
    simp only [rI_some, bI0, H.1, bl, true_and]
    refine ⟨fun z => r189 n1 n2 n3 n4 (fun y => z y.1), fun z => ⟨fun y => r189 n1 n2 n3 n4 (fun x => y x.2.1), fun y => ⟨fun x => r189 n1 n2 n3 n4 (fun w => absurd w.2.2 (Nat.not_lt.mpr x)), fun x => ?_⟩⟩⟩
    have z := Decidable.not_not.mp z
    have y := Decidable.not_not.mp y
    rw [if_neg n1, if_neg n2, if_neg n3, if_neg n4, if_pos ⟨z, y, Nat.lt_of_not_le x⟩] at k
    obtain ⟨B, hB, hd', eb, er, ey⟩ := relB y (th := 0) (Nat.zero_le 3) hP ty
    rcases rst_0 hB with ⟨z1, z2⟩ | ⟨l', z1, z2, z3, z4⟩
    · exact absurd (Nat.le_of_eq (eb.trans z2)) x
    have hl' : rstL 0 pile = 12 :: l' := er.trans z1
    rw [hl', List.tail_cons] at k
    refine sp_closeB d8 r n p q st pa pile l' cl su s t p4 I (g68 y) hl' H R T e2 (fun h' f a b c => ?_)
    rw [rV_none, rt_v]
    exact ⟨f.2.2.1, f.2.2.2.1, k h' f a b c⟩
  have r126 : ¬ (5 ≤ tgO (tkO t n q) ∧ st ≠ 8) → ¬ (tgO (tkO t n q) = 4 ∧ st = 4) → ¬ ((tkO t n q = 10 ∨ tkO t n q = 11) ∧ (st = 6 ∨ st = 8)) → Reach e nX7_goOn (126, [.ref r, .float 0, .float 0, .int (bI (st = 6 ∨ st = 8))], []) h (hN h) (hU h) Q := fun n1 n2 n3 => by
    refine wX7_goOn_126 d4 r _ ?_
    simp only [H.1, H.2.1, HT.1, true_and]
    refine sp_isWord d5 (r + 1) n q 14 t (by decide) HT T ?_
    simp only [rI_some, bI0, H.1, s2, true_and, lH_eq, rt_v, hN_sI, hU_sI]
    refine ⟨fun z => r159 n1 n2 n3 (fun y => z y.1), fun z => ⟨fun y => r159 n1 n2 n3 (fun x => y x.2), fun y => ?_⟩⟩
    have z := Decidable.not_not.mp z
    rw [if_neg n1, if_neg n2, if_neg n3, if_pos ⟨z, y⟩] at k
    have fc := fin_cl I (Or.inr y)
    have hsu := su2 y
    subst hsu y
    rw [fc.2.1] at k
    exact sp_ifK d9 r n p q pa pile cl s t c11 hall.2 hall.1 fc.2.1 ho H R T e2 k
  have r108 : ¬ (5 ≤ tgO (tkO t n q) ∧ st ≠ 8) → ¬ (tgO (tkO t n q) = 4 ∧ st = 4) → (tkO t n q = 10 ∨ tkO t n q = 11) → Reach e nX7_goOn (108, [.ref r, .int (pcI (tkO t n q)), .float 0, .int (bI (st = 6 ∨ st = 8))], []) h (hN h) (hU h) Q := fun n1 n2 c3 => by
    refine wX7_goOn_108 d4 r _ _ ?_
    simp only [bI0, H.1, true_and]
    refine ⟨fun z => r126 n1 n2 (fun y => z y.2), fun z => ?_⟩
    have z := Decidable.not_not.mp z
    rw [if_neg n1, if_neg n2, if_pos ⟨c3, z⟩] at k pres
    have hl := (pres _ rfl).1.all.1
    rw [List.length_cons] at hl
    obtain ⟨w1, w2, w3, w4⟩ := w10 c3
    refine sp_joinK d9 r n p q st 7 pa (tkO t n q) pile cl su s t hall.2 hall.1 (len_of hl) ho t2 w2 w1 w3 w4 (fun _ => g68 z) H R T e2 k (fun h1 H1 e10 m1 m2 hQ => ?_)
    simp only [rV_none, H1.1, lH_eq, rt_v, hN_sI, hU_sI, true_and]
    exact ⟨m1, m2, hQ⟩
  have r96 : ¬ (5 ≤ tgO (tkO t n q) ∧ st ≠ 8) → ¬ (tgO (tkO t n q) = 4 ∧ st = 4) → Reach e nX7_goOn (96, [.ref r, .int (pcI (tkO t n q)), .float 0, .int (bI (st = 6 ∨ st = 8))], []) h (hN h) (hU h) Q := fun n1 n2 => by
    refine wX7_goOn_96 d4 r _ _ ?_
    exact ⟨fun z => r108 n1 n2 (Or.inl (pc.1.mp z)), fun z => ⟨fun y => r126 n1 n2 (fun x => x.1.elim (fun w => z (pc.1.mpr w)) (fun w => y (pc.2.mpr w))), fun y => r108 n1 n2 (Or.inr (pc.2.mp y))⟩⟩
  have r66 : ¬ (5 ≤ tgO (tkO t n q) ∧ st ≠ 8) → Reach e nX7_goOn (66, [.ref r, .int (pcI (tkO t n q)), .int (tgI (tkO t n q)), .int (bI (st = 6 ∨ st = 8))], []) h (hN h) (hU h) Q := fun n1 => by
    refine wX7_goOn_66 d4 r _ _ _ ?_
    simp only [H.1, s4, true_and, lH_eq, rt_v, hN_sI, hU_sI]
    refine ⟨fun z => r96 n1 (fun y => z (t4.mpr y.1)), fun z => ⟨fun y => r96 n1 (fun x => y x.2), fun y => ?_⟩⟩
    have z := t4.mp z
    rw [if_neg n1, if_pos ⟨z, y⟩] at k
    subst y
    exact sp_signK d10 r n p q pa (tkO t n q) pile cl su s t hq4 i2 hall.2 hall.1 (rst3_lt hP) ho z H R HT T e2 k
  have r33 : Reach e nX7_goOn (33, [.ref r, .int (pcI (tkO t n q)), .int (tgI (tkO t n q)), .float 0], [.int (bI (st = 6 ∨ st = 8))]) h (hN h) (hU h) Q := by
    refine wX7_goOn_33 d4 r _ _ _ ?_
    simp only [H.1, s8, true_and]
    refine ⟨fun z => r66 (fun y => t5.mp z y.1), fun z => ⟨fun y => r66 (fun x => x.2 y), fun y => ?_⟩⟩
    have z : 5 ≤ tgO (tkO t n q) := Decidable.not_not.mp (fun w => z (t5.mpr w))
    rw [if_pos ⟨z, y⟩] at k pres
    have hl := (pres _ rfl).1.all.1
    rw [List.length_cons] at hl
    obtain ⟨w1, w2, w3⟩ := tk_ne z
    refine sp_joinK d9 r n p q st (st - 1) pa (tkO t n q) pile cl su s t hall.2 hall.1 (len_of hl) ho t2 (t15 w3) (g5 z) w1 w2 st31 H R T e2 k (fun h1 H1 e10 m1 m2 hQ => ?_)
    simp only [rV_none, H1.1, lH_eq, rt_v, hN_sI, hU_sI, true_and, e10, es1]
    exact ⟨m1, m2, hQ⟩
  refine wX7_goOn d4 r ?_
  simp only [H.1, true_and]
  refine sp_stepTok d6 r n q t H HT T ?_
  rw [rI_some]
  refine sp_tight d5 (tkO t n q) t2 t16 ?_
  simp only [rI_some, H.1, s6, s8, true_and]
  have r28 : (st = 6 ∨ st = 8) → Reach e nX7_goOn (28, [.ref r, .int (pcI (tkO t n q)), .int (tgI (tkO t n q)), .float 0], []) h (hN h) (hU h) Q := fun z => by
    refine wX7_goOn_28 d4 r _ _ ?_
    rw [bI_t z] at r33
    exact r33
  refine ⟨fun z => r28 (Or.inl z), fun z => ⟨fun y => ?_, fun y => r28 (Or.inr y)⟩⟩
  rw [bI_f (fun x => x.elim z y)] at r33
  exact r33
