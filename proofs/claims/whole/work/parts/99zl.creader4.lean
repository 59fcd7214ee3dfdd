theorem sp_takeFact {d : Nat} {h : AH} {Q : Option Value → AH → Prop} (hd : 9 ≤ d) (r n p pa : Nat) (pile : List Nat) (cl : List (List (Nat × Nat) × List (Nat × Nat))) (su s : List (Nat × Nat)) (t : Nat → Int32) (hn : n ≤ 400) (hp : p ≤ n) (I : mInv (p, 7, pile, pa, cl, su, s)) (H : RdS h r) (R : RdIs h r (p, 7, pile, pa, cl, su, s)) (HT : TxS h (r + 1) n t) (T : TxAt h (r + 1) t n (sk t n p)) (e2 : hI h (r + 1) 2 = 0) (k : KT h r n (sk t n p) t (mstep t n (p, 7, pile, pa, cl, su, s)) Q) : Calls d nX7_takeFact [.ref r] h (hN h) (hU h) Q := by
  obtain ⟨e, rfl⟩ : ∃ e, d = e + 1 := ⟨d - 1, by omega⟩
  have hq : sk t n p ≤ n := ru_le hp
  have hs : p ≤ sk t n p := ru_ge
  have ek : mstep t n (p, 7, pile, pa, cl, su, s) = if isWd t n (sk t n p) 17 ∨ (tkK t n (sk t n p) = 3 ∧ tkV t n (sk t n p) = 91) then (if 10 ≤ dpt pile then .inl (rfF 0 (sk t n p) 2, []) else .inr (tkE t n (sk t n p), 7, (if tkK t n (sk t n p) = 3 then 12 else 9) :: pile, pa, cl, su, s)) else mval t n (sk t n p) 4 pile pa cl su s := rfl
  rw [ek] at k
  generalize sk t n p = q at *
  have R0 := R
  have hall := I.1.all
  have hdp : dpt pile ≤ pile.length := dpt_le pile
  obtain ⟨hP, ⟨i1, i2, i3, i4⟩, i5, -⟩ := I
  have hl : pile.length < 35 ∨ 10 ≤ dpt pile := by
    by_cases c : 10 ≤ dpt pile
    · exact Or.inr c
    · obtain ⟨A, G, B, e, hA, hB, hd', hG, hB0, hA0⟩ := hP
      have a0 := hA0 (by omega)
      have g0 := hG.2 (by omega)
      subst a0 g0
      have e : pile = B := e
      subst e
      have := bLen hB
      left
      split at this
      · omega
      · split at this <;> omega
  obtain ⟨R1, R2, R3, ⟨R4, R5, R6⟩, R7, R8⟩ := R
  have lt : ((nI (dpt pile)) < (10 : Int32)) = (dpt pile < 10) := nI_lt_iff (b := 10) (by omega) (by decide)
  have d6 : hI h r 6 = nI (dpt pile) := R2.1
  refine wX7_takeFact (by omega) r ?_
  simp only [H.1, H.2.1, HT.1, true_and]
  refine sp_isWord (by omega) (r + 1) n q 17 t (by decide) HT T ?_
  simp only [rI_some, bI0, H.1, H.2.1, HT.1, d6, lt, true_and, lH_eq, nI_1]
  refine ⟨fun z => ?_, fun z => ?_⟩
  · have cc : isWd t n q 17 ∨ (tkK t n q = 3 ∧ tkV t n q = 91) := Or.inl (Decidable.not_not.mp z)
    rw [if_pos cc] at k
    refine ⟨fun x => ?_, fun x => ?_⟩
    · have hl := hl.resolve_right (by omega)
      rw [if_neg (show ¬ 10 ≤ dpt pile by omega)] at k
      refine ⟨by rw [hS_sI, H.1], by rw [hS_sI, H.1], by rw [hS_sI, hR_sI, H.2.1, HT.1], ?_⟩
      rw [hR_sI, H.2.1]
      have f4 : Fr' h (sI h r 6 (nI (dpt pile + 1))) (fun c => c = r) := Fr'.sI rfl
      have H4 := H.fr f4
      have HT4 : TxS (sI h r 6 (nI (dpt pile + 1))) (r + 1) n t := HT.cg f4 (by omega) (by omega)
      have T4 : TxAt (sI h r 6 (nI (dpt pile + 1))) (r + 1) t n q := T.cg (fun j _ => by rw [hI_sI, if_neg (by omega)])
      have e74 : hI (sI h r 6 (nI (dpt pile + 1))) r 7 = nI (brc pile) := by rw [hI_sI, if_pos rfl, if_neg (by decide)]; exact R2.2
      refine sp_isSign (h := sI h r 6 (nI (dpt pile + 1))) (by omega) (r + 1) n q 91 t HT4 T4 ?_
      simp only [rI_some, bI0, e74]
      generalize hh4 : sI h r 6 (nI (dpt pile + 1)) = h4 at *
      simp only [H4.1, H4.2.1, HT4.1, true_and, lH_eq]
      refine ⟨fun y => ?_, fun y => ?_⟩
      · rw [Int32.add_zero]
        have f5 : Fr' h4 (sI h4 r 7 (nI (brc pile))) (fun c => c = r) := Fr'.sI rfl
        have HT5 := HT4.cg f5 (by omega) (by omega)
        have H5 := H4.fr f5
        have T5 : TxAt (sI h4 r 7 (nI (brc pile))) (r + 1) t n q := T4.cg (fun j _ => by rw [hI_sI, if_neg (by omega)])
        have ec : (if tkK t n q = 3 then 12 else 9 : Nat) = 9 := if_neg (fun z => cc.elim (fun c => by have := c.1; omega) y)
        rw [ec] at k
        have g5 : ∀ j, j ≠ 6 → j ≠ 7 → hI (sI h4 r 7 (nI (brc pile))) r j = hI h r j := fun j a b => by rw [hI_sI, if_pos rfl, if_neg b, ← hh4, hI_sI, if_pos rfl, if_neg a]
        have g56 : hI (sI h4 r 7 (nI (brc pile))) r 6 = nI (dpt pile + 1) := by rw [hI_sI, if_pos rfl, if_neg (by decide), ← hh4, hI_sI, if_pos rfl, if_pos rfl]
        have g57 : hI (sI h4 r 7 (nI (brc pile))) r 7 = nI (brc pile) := by rw [hI_sI, if_pos rfl, if_pos rfl]
        have o5 : ∀ c, c ≠ r → ∀ j, hI (sI h4 r 7 (nI (brc pile))) c j = hI h c j := fun c a j => by rw [hI_sI, if_neg a, ← hh4, hI_sI, if_neg a]
        have F5 : Fr' h (sI h4 r 7 (nI (brc pile))) (fun c => c = r) := f4.trans f5
        refine ⟨by rw [hS_sI, H4.1], by rw [hS_sI, hR_sI, H4.2.1, HT4.1], ?_⟩
        rw [hR_sI, H4.2.1]
        refine sp_isSign (h := sI h4 r 7 (nI (brc pile))) (by omega) (r + 1) n q 91 t HT5 T5 ?_
        simp only [rI_some, bI0]
        generalize sI h4 r 7 (nI (brc pile)) = h5 at *
        refine ⟨fun _ => ⟨by rw [H5.1], ?_⟩, fun z => absurd (Decidable.not_not.mp z) y⟩
        refine sp_pileR (by omega) r 9 pile H5 (R1.cg (g5 5 (by decide) (by decide)) (o5 (r + 4) (by omega))) hl (fun h6 f6 g6 P6 => ?_)
        rw [rV_none, rt_v]
        have F : Fr' h h6 (RB r) := (F5.mono (fun c z => by unfold RB; omega)).trans (f6.mono (fun c z => by unfold RB; omega))
        have o6 : ∀ c, c ≠ r → c ≠ r + 4 → ∀ j, hI h6 c j = hI h c j := fun c a b j => by rw [f6.2.2.2.2.1 c (by omega), o5 c a]
        refine ⟨F.2.2.1, F.2.2.2.1, k h6 F ⟨o6 (r + 1) (by omega) (by omega) 1, o6 (r + 5) (by omega) (by omega) 0⟩ (T.cg (fun j _ => o6 (r + 1) (by omega) (by omega) j)) ⟨(o6 (r + 1) (by omega) (by omega) 2).trans e2, P6, ⟨?_, ?_⟩, R3.cg ((g6 4 (by decide)).trans (g5 4 (by decide) (by decide))) (o6 (r + 3) (by omega) (by omega)), ⟨((g6 8 (by decide)).trans (g5 8 (by decide) (by decide))).trans R4, ((g6 9 (by decide)).trans (g5 9 (by decide) (by decide))).trans R5, ((g6 10 (by decide)).trans (g5 10 (by decide) (by decide))).trans R6⟩, R7.cg (fun j _ => o6 (r + 5) (by omega) (by omega) j), fun z => by rw [o6 (r + 5) (by omega) (by omega)]; exact R8 z⟩⟩
        · rw [g6 6 (by decide), g56, dpt_c, if_pos (Or.inl rfl), Nat.add_comm]
        · rw [g6 7 (by decide), g57, brc_c, if_neg (by decide), Nat.zero_add]
      · have y := Decidable.not_not.mp y
        rw [nI_1]
        have f5 : Fr' h4 (sI h4 r 7 (nI (brc pile + 1))) (fun c => c = r) := Fr'.sI rfl
        have HT5 := HT4.cg f5 (by omega) (by omega)
        have H5 := H4.fr f5
        have T5 : TxAt (sI h4 r 7 (nI (brc pile + 1))) (r + 1) t n q := T4.cg (fun j _ => by rw [hI_sI, if_neg (by omega)])
        have ec : (if tkK t n q = 3 then 12 else 9 : Nat) = 12 := if_pos y.1
        rw [ec] at k
        have g5 : ∀ j, j ≠ 6 → j ≠ 7 → hI (sI h4 r 7 (nI (brc pile + 1))) r j = hI h r j := fun j a b => by rw [hI_sI, if_pos rfl, if_neg b, ← hh4, hI_sI, if_pos rfl, if_neg a]
        have g56 : hI (sI h4 r 7 (nI (brc pile + 1))) r 6 = nI (dpt pile + 1) := by rw [hI_sI, if_pos rfl, if_neg (by decide), ← hh4, hI_sI, if_pos rfl, if_pos rfl]
        have g57 : hI (sI h4 r 7 (nI (brc pile + 1))) r 7 = nI (brc pile + 1) := by rw [hI_sI, if_pos rfl, if_pos rfl]
        have o5 : ∀ c, c ≠ r → ∀ j, hI (sI h4 r 7 (nI (brc pile + 1))) c j = hI h c j := fun c a j => by rw [hI_sI, if_neg a, ← hh4, hI_sI, if_neg a]
        have F5 : Fr' h (sI h4 r 7 (nI (brc pile + 1))) (fun c => c = r) := f4.trans f5
        refine ⟨by rw [hS_sI, H4.1], by rw [hS_sI, hR_sI, H4.2.1, HT4.1], ?_⟩
        rw [hR_sI, H4.2.1]
        refine sp_isSign (h := sI h4 r 7 (nI (brc pile + 1))) (by omega) (r + 1) n q 91 t HT5 T5 ?_
        simp only [rI_some, bI0]
        generalize sI h4 r 7 (nI (brc pile + 1)) = h5 at *
        refine ⟨fun z => absurd y z, fun _ => ⟨by rw [H5.1], ?_⟩⟩
        refine sp_pileR (by omega) r 12 pile H5 (R1.cg (g5 5 (by decide) (by decide)) (o5 (r + 4) (by omega))) hl (fun h6 f6 g6 P6 => ?_)
        rw [rV_none, rt_v]
        have F : Fr' h h6 (RB r) := (F5.mono (fun c z => by unfold RB; omega)).trans (f6.mono (fun c z => by unfold RB; omega))
        have o6 : ∀ c, c ≠ r → c ≠ r + 4 → ∀ j, hI h6 c j = hI h c j := fun c a b j => by rw [f6.2.2.2.2.1 c (by omega), o5 c a]
        refine ⟨F.2.2.1, F.2.2.2.1, k h6 F ⟨o6 (r + 1) (by omega) (by omega) 1, o6 (r + 5) (by omega) (by omega) 0⟩ (T.cg (fun j _ => o6 (r + 1) (by omega) (by omega) j)) ⟨(o6 (r + 1) (by omega) (by omega) 2).trans e2, P6, ⟨?_, ?_⟩, R3.cg ((g6 4 (by decide)).trans (g5 4 (by decide) (by decide))) (o6 (r + 3) (by omega) (by omega)), ⟨((g6 8 (by decide)).trans (g5 8 (by decide) (by decide))).trans R4, ((g6 9 (by decide)).trans (g5 9 (by decide) (by decide))).trans R5, ((g6 10 (by decide)).trans (g5 10 (by decide) (by decide))).trans R6⟩, R7.cg (fun j _ => o6 (r + 5) (by omega) (by omega) j), fun z => by rw [o6 (r + 5) (by omega) (by omega)]; exact R8 z⟩⟩
        · rw [g6 6 (by decide), g56, dpt_c, if_pos (Or.inr rfl), Nat.add_comm]
        · rw [g6 7 (by decide), g57, brc_c, if_pos rfl, Nat.add_comm]
    · rw [if_pos (show 10 ≤ dpt pile by omega)] at k
      refine sp_refK (by omega) r n q 2 t (by omega) (by omega) HT T e2 (fun h' f a b c => ?_)
      rw [rV_none]
      exact ⟨f.2.2.1, f.2.2.2.1, k h' f a b c⟩
  · refine sp_isSign (by omega) (r + 1) n q 91 t HT T ?_
    simp only [rI_some, bI0, H.1, H.2.1, HT.1, d6, lt, true_and, lH_eq, nI_1]
    refine ⟨fun w => ?_, fun w => ?_⟩
    · have cc : isWd t n q 17 ∨ (tkK t n q = 3 ∧ tkV t n q = 91) := Or.inr (Decidable.not_not.mp w)
      rw [if_pos cc] at k
      refine ⟨fun x => ?_, fun x => ?_⟩
      · have hl := hl.resolve_right (by omega)
        rw [if_neg (show ¬ 10 ≤ dpt pile by omega)] at k
        refine ⟨by rw [hS_sI, H.1], by rw [hS_sI, H.1], by rw [hS_sI, hR_sI, H.2.1, HT.1], ?_⟩
        rw [hR_sI, H.2.1]
        have f4 : Fr' h (sI h r 6 (nI (dpt pile + 1))) (fun c => c = r) := Fr'.sI rfl
        have H4 := H.fr f4
        have HT4 : TxS (sI h r 6 (nI (dpt pile + 1))) (r + 1) n t := HT.cg f4 (by omega) (by omega)
        have T4 : TxAt (sI h r 6 (nI (dpt pile + 1))) (r + 1) t n q := T.cg (fun j _ => by rw [hI_sI, if_neg (by omega)])
        have e74 : hI (sI h r 6 (nI (dpt pile + 1))) r 7 = nI (brc pile) := by rw [hI_sI, if_pos rfl, if_neg (by decide)]; exact R2.2
        refine sp_isSign (h := sI h r 6 (nI (dpt pile + 1))) (by omega) (r + 1) n q 91 t HT4 T4 ?_
        simp only [rI_some, bI0, e74]
        generalize hh4 : sI h r 6 (nI (dpt pile + 1)) = h4 at *
        simp only [H4.1, H4.2.1, HT4.1, true_and, lH_eq]
        refine ⟨fun y => ?_, fun y => ?_⟩
        · rw [Int32.add_zero]
          have f5 : Fr' h4 (sI h4 r 7 (nI (brc pile))) (fun c => c = r) := Fr'.sI rfl
          have HT5 := HT4.cg f5 (by omega) (by omega)
          have H5 := H4.fr f5
          have T5 : TxAt (sI h4 r 7 (nI (brc pile))) (r + 1) t n q := T4.cg (fun j _ => by rw [hI_sI, if_neg (by omega)])
          have ec : (if tkK t n q = 3 then 12 else 9 : Nat) = 9 := if_neg (fun z => cc.elim (fun c => by have := c.1; omega) y)
          rw [ec] at k
          have g5 : ∀ j, j ≠ 6 → j ≠ 7 → hI (sI h4 r 7 (nI (brc pile))) r j = hI h r j := fun j a b => by rw [hI_sI, if_pos rfl, if_neg b, ← hh4, hI_sI, if_pos rfl, if_neg a]
          have g56 : hI (sI h4 r 7 (nI (brc pile))) r 6 = nI (dpt pile + 1) := by rw [hI_sI, if_pos rfl, if_neg (by decide), ← hh4, hI_sI, if_pos rfl, if_pos rfl]
          have g57 : hI (sI h4 r 7 (nI (brc pile))) r 7 = nI (brc pile) := by rw [hI_sI, if_pos rfl, if_pos rfl]
          have o5 : ∀ c, c ≠ r → ∀ j, hI (sI h4 r 7 (nI (brc pile))) c j = hI h c j := fun c a j => by rw [hI_sI, if_neg a, ← hh4, hI_sI, if_neg a]
          have F5 : Fr' h (sI h4 r 7 (nI (brc pile))) (fun c => c = r) := f4.trans f5
          refine ⟨by rw [hS_sI, H4.1], by rw [hS_sI, hR_sI, H4.2.1, HT4.1], ?_⟩
          rw [hR_sI, H4.2.1]
          refine sp_isSign (h := sI h4 r 7 (nI (brc pile))) (by omega) (r + 1) n q 91 t HT5 T5 ?_
          simp only [rI_some, bI0]
          generalize sI h4 r 7 (nI (brc pile)) = h5 at *
          refine ⟨fun _ => ⟨by rw [H5.1], ?_⟩, fun z => absurd (Decidable.not_not.mp z) y⟩
          refine sp_pileR (by omega) r 9 pile H5 (R1.cg (g5 5 (by decide) (by decide)) (o5 (r + 4) (by omega))) hl (fun h6 f6 g6 P6 => ?_)
          rw [rV_none, rt_v]
          have F : Fr' h h6 (RB r) := (F5.mono (fun c z => by unfold RB; omega)).trans (f6.mono (fun c z => by unfold RB; omega))
          have o6 : ∀ c, c ≠ r → c ≠ r + 4 → ∀ j, hI h6 c j = hI h c j := fun c a b j => by rw [f6.2.2.2.2.1 c (by omega), o5 c a]
          refine ⟨F.2.2.1, F.2.2.2.1, k h6 F ⟨o6 (r + 1) (by omega) (by omega) 1, o6 (r + 5) (by omega) (by omega) 0⟩ (T.cg (fun j _ => o6 (r + 1) (by omega) (by omega) j)) ⟨(o6 (r + 1) (by omega) (by omega) 2).trans e2, P6, ⟨?_, ?_⟩, R3.cg ((g6 4 (by decide)).trans (g5 4 (by decide) (by decide))) (o6 (r + 3) (by omega) (by omega)), ⟨((g6 8 (by decide)).trans (g5 8 (by decide) (by decide))).trans R4, ((g6 9 (by decide)).trans (g5 9 (by decide) (by decide))).trans R5, ((g6 10 (by decide)).trans (g5 10 (by decide) (by decide))).trans R6⟩, R7.cg (fun j _ => o6 (r + 5) (by omega) (by omega) j), fun z => by rw [o6 (r + 5) (by omega) (by omega)]; exact R8 z⟩⟩
          · rw [g6 6 (by decide), g56, dpt_c, if_pos (Or.inl rfl), Nat.add_comm]
          · rw [g6 7 (by decide), g57, brc_c, if_neg (by decide), Nat.zero_add]
        · have y := Decidable.not_not.mp y
          rw [nI_1]
          have f5 : Fr' h4 (sI h4 r 7 (nI (brc pile + 1))) (fun c => c = r) := Fr'.sI rfl
          have HT5 := HT4.cg f5 (by omega) (by omega)
          have H5 := H4.fr f5
          have T5 : TxAt (sI h4 r 7 (nI (brc pile + 1))) (r + 1) t n q := T4.cg (fun j _ => by rw [hI_sI, if_neg (by omega)])
          have ec : (if tkK t n q = 3 then 12 else 9 : Nat) = 12 := if_pos y.1
          rw [ec] at k
          have g5 : ∀ j, j ≠ 6 → j ≠ 7 → hI (sI h4 r 7 (nI (brc pile + 1))) r j = hI h r j := fun j a b => by rw [hI_sI, if_pos rfl, if_neg b, ← hh4, hI_sI, if_pos rfl, if_neg a]
          have g56 : hI (sI h4 r 7 (nI (brc pile + 1))) r 6 = nI (dpt pile + 1) := by rw [hI_sI, if_pos rfl, if_neg (by decide), ← hh4, hI_sI, if_pos rfl, if_pos rfl]
          have g57 : hI (sI h4 r 7 (nI (brc pile + 1))) r 7 = nI (brc pile + 1) := by rw [hI_sI, if_pos rfl, if_pos rfl]
          have o5 : ∀ c, c ≠ r → ∀ j, hI (sI h4 r 7 (nI (brc pile + 1))) c j = hI h c j := fun c a j => by rw [hI_sI, if_neg a, ← hh4, hI_sI, if_neg a]
          have F5 : Fr' h (sI h4 r 7 (nI (brc pile + 1))) (fun c => c = r) := f4.trans f5
          refine ⟨by rw [hS_sI, H4.1], by rw [hS_sI, hR_sI, H4.2.1, HT4.1], ?_⟩
          rw [hR_sI, H4.2.1]
          refine sp_isSign (h := sI h4 r 7 (nI (brc pile + 1))) (by omega) (r + 1) n q 91 t HT5 T5 ?_
          simp only [rI_some, bI0]
          generalize sI h4 r 7 (nI (brc pile + 1)) = h5 at *
          refine ⟨fun z => absurd y z, fun _ => ⟨by rw [H5.1], ?_⟩⟩
          refine sp_pileR (by omega) r 12 pile H5 (R1.cg (g5 5 (by decide) (by decide)) (o5 (r + 4) (by omega))) hl (fun h6 f6 g6 P6 => ?_)
          rw [rV_none, rt_v]
          have F : Fr' h h6 (RB r) := (F5.mono (fun c z => by unfold RB; omega)).trans (f6.mono (fun c z => by unfold RB; omega))
          have o6 : ∀ c, c ≠ r → c ≠ r + 4 → ∀ j, hI h6 c j = hI h c j := fun c a b j => by rw [f6.2.2.2.2.1 c (by omega), o5 c a]
          refine ⟨F.2.2.1, F.2.2.2.1, k h6 F ⟨o6 (r + 1) (by omega) (by omega) 1, o6 (r + 5) (by omega) (by omega) 0⟩ (T.cg (fun j _ => o6 (r + 1) (by omega) (by omega) j)) ⟨(o6 (r + 1) (by omega) (by omega) 2).trans e2, P6, ⟨?_, ?_⟩, R3.cg ((g6 4 (by decide)).trans (g5 4 (by decide) (by decide))) (o6 (r + 3) (by omega) (by omega)), ⟨((g6 8 (by decide)).trans (g5 8 (by decide) (by decide))).trans R4, ((g6 9 (by decide)).trans (g5 9 (by decide) (by decide))).trans R5, ((g6 10 (by decide)).trans (g5 10 (by decide) (by decide))).trans R6⟩, R7.cg (fun j _ => o6 (r + 5) (by omega) (by omega) j), fun z => by rw [o6 (r + 5) (by omega) (by omega)]; exact R8 z⟩⟩
          · rw [g6 6 (by decide), g56, dpt_c, if_pos (Or.inr rfl), Nat.add_comm]
          · rw [g6 7 (by decide), g57, brc_c, if_pos rfl, Nat.add_comm]
      · rw [if_pos (show 10 ≤ dpt pile by omega)] at k
        refine sp_refK (by omega) r n q 2 t (by omega) (by omega) HT T e2 (fun h' f a b c => ?_)
        rw [rV_none]
        exact ⟨f.2.2.1, f.2.2.2.1, k h' f a b c⟩
    · rw [if_neg (fun c => c.elim z w)] at k
      refine sp_takeValue (by omega) r n p q 7 4 pa pile cl su s t hn i2 hq (fun _ => by omega) (by omega) H R0 HT T e2 (fun h' f a b c => ?_)
      rw [rV_none]
      exact ⟨f.2.2.1, f.2.2.2.1, k h' f a b c⟩
