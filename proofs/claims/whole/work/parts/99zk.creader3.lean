theorem RdIs.set {h h' : AH} {r p p' st st' pa : Nat} {pile : List Nat} {cl : List (List (Nat × Nat) × List (Nat × Nat))} {su s : List (Nat × Nat)} (R : RdIs h r (p, st, pile, pa, cl, su, s)) (g : ∀ j, j ≠ 10 → hI h' r j = hI h r j) (g10 : hI h' r 10 = nI st') (o : ∀ c, c ≠ r → c ≠ r + 1 → ∀ j, hI h' c j = hI h c j) (hs : 3 ≤ st' → 3 ≤ st) : RdIs h' r (p', st', pile, pa, cl, su, s) := by
  obtain ⟨R1, R2, R3, ⟨R4, R5, R6⟩, R7, R8⟩ := R
  exact ⟨R1.cg (g 5 (by decide)) (o (r + 4) (by omega) (by omega)), R2.cg (g 6 (by decide)) (g 7 (by decide)), R3.cg (g 4 (by decide)) (o (r + 3) (by omega) (by omega)), ⟨(g 8 (by decide)).trans R4, (g 9 (by decide)).trans R5, g10⟩, R7.cg (fun j _ => o (r + 5) (by omega) (by omega) j), fun z => by rw [o (r + 5) (by omega) (by omega)]; exact R8 (hs z)⟩
theorem sp_takeValue {d : Nat} {h : AH} {Q : Option Value → AH → Prop} (hd : 8 ≤ d) (r n p q st beh pa : Nat) (pile : List Nat) (cl : List (List (Nat × Nat) × List (Nat × Nat))) (su s : List (Nat × Nat)) (t : Nat → Int32) (hn : n ≤ 400) (hpa : pa ≤ 60) (hq : q ≤ n) (hbe : 3 ≤ beh → 3 ≤ st) (ho : (flK cl ++ su ++ s).length ≤ q) (H : RdS h r) (R : RdIs h r (p, st, pile, pa, cl, su, s)) (HT : TxS h (r + 1) n t) (T : TxAt h (r + 1) t n q) (e2 : hI h (r + 1) 2 = 0) (k : KT h r n q t (mval t n q beh pile pa cl su s) Q) : Calls d nX7_takeValue [.ref r, .int (nI beh)] h (hN h) (hU h) Q := by
  obtain ⟨e, rfl⟩ : ∃ e, d = e + 1 := ⟨d - 1, by omega⟩
  have hK := tkK_le t n q
  have k1 : ((nI (tkK t n q)) = (1 : Int32)) = (tkK t n q = 1) := nI_eq_iff (b := 1) (by omega) (by decide)
  have k2 : ((nI (tkK t n q)) = (2 : Int32)) = (tkK t n q = 2) := nI_eq_iff (b := 2) (by omega) (by decide)
  unfold mval at k
  obtain ⟨R1, R2, R3, ⟨R4, R5, R6⟩, R7, R8⟩ := R
  have r75 : (tkK t n q = 1 ∨ (tkK t n q = 2 ∧ 0 ≤ tkV t n q ∧ tkV t n q < 12)) → Reach e nX7_takeValue (75, [.ref r, .int (nI beh), .int (bI (tkK t n q = 1)), .float 0], []) h (hN h) (hU h) Q := fun c1 => by
    have hqn : q < n := tkK_lt (t := t) (show ¬ tkK t n q = 0 by omega)
    have v5 := T.2.2.1 hqn
    rw [if_neg (fun z => c1.elim z.1 z.2)] at k
    refine wX7_takeValue_75 (by omega) r (nI beh) _ ?_
    simp only [rt_i, rt_b0, rt_b1, rt_v, rt_l, rt_o, rt_a, rV_none, rI_some, rL_some, rR_some, rT_some, rt_bI, hIf_sL, hIf_sR, hS_sI, hS_sL, hS_sR, hS_cpI, hR_sI, hR_sL, hR_cpI, hL_sI, hL_sR, hL_cpI, hI_sL, hI_sR, hN_sI, hN_sL, hN_sR, hN_cpI, hU_sI, hU_sL, hU_sR, hU_cpI, tn0, tn1, tn2, tn3, tn4, tn5, tn6, tn7, tn8, tn9, tn10, tn11, tn12, tn13, tn14, tn15, tn16, tn17, tn18, tn19, tn20, tn21, tn22, tn23, tn24, tn25, tn26, tn27, tn28, tn29, tn30, tn31, tn32, tn33, tn34, tn35, tn36, tn37, tn38, tn39, tn40, tn41, tn42, tn43, tn44, tn45, tn46, tn47, tn48, tn49, tn50, tn51, tn52, tn53, tn54, tn55, tn56, tn57, tn58, tn59, tn60, lH_eq, true_and, and_true, H.1, H.2.1, HT.1, v5, bI0]
    refine ⟨fun z => ?_, fun z => ?_⟩
    · rw [if_neg (Int32.not_lt.mpr z)] at k
      refine sp_countPart (by omega) r n q pa t H HT T.1 (by omega) R4 (fun h1 f1 g1 g8 gt g2 => ?_)
      have H1 := H.fr f1
      rw [e2] at g2
      have v51 : hI h1 (r + 1) 5 = tkV t n q := (gt 5 (by decide)).trans v5
      have o1 : ∀ c, c ≠ r → c ≠ r + 1 → ∀ j, hI h1 c j = hI h c j := fun c a b => f1.2.2.2.2.1 c (by omega)
      have O1 : RdO h1 r (flK cl ++ su ++ s) := R3.cg (g1 4 (by decide)) (o1 (r + 3) (by omega) (by omega))
      have st1 : hS h1 (r + 1) = (18, 7) := by rw [f1.1]; exact HT.1
      have go : ∀ (v : Int32), v = cdI ((if tkK t n q = 1 then 0 else 1 : Nat), (tkV t n q).toNatClampNeg) → Calls e nX7_addStep [.ref r, .int v] h1 (hN h1) (hU h1) (fun r4 h3 => rV r4 ((hS h3 r).1 = 10 + 7 ∧ hN h3 = hN h ∧ hU h3 = hU h ∧ Q none (sI h3 r 10 (nI beh)))) := fun v hv => by
        refine sp_addStep (by omega) r v _ (flK cl ++ su ++ s) H1 O1 (by omega) hv (fun h2 f2 g3 O2 => ?_)
        have H2 := H1.fr f2
        rw [rV_none]
        have F : Fr' h (sI h2 r 10 (nI beh)) (RB r) := ((f1.mono (fun c z => by unfold RB; omega)).trans (f2.mono (fun c z => by unfold RB; omega))).trans (Fr'.sI (by unfold RB; omega))
        have oo : ∀ c, c ≠ r → c ≠ r + 1 → c ≠ r + 3 → ∀ j, hI (sI h2 r 10 (nI beh)) c j = hI h c j := fun c a b d j => by rw [hI_sI, if_neg a, f2.2.2.2.2.1 c (by omega), o1 c a b]
        have tt : ∀ j, hI (sI h2 r 10 (nI beh)) (r + 1) j = hI h1 (r + 1) j := fun j => by rw [hI_sI, if_neg (by omega), f2.2.2.2.2.1 (r + 1) (by omega)]
        have rr : ∀ j, j ≠ 4 → j ≠ 8 → j ≠ 10 → hI (sI h2 r 10 (nI beh)) r j = hI h r j := fun j a b d => by rw [hI_sI, if_pos rfl, if_neg d, g3 j a, g1 j b]
        refine ⟨by rw [H2.1], F.2.2.1, F.2.2.2.1, k _ F ⟨(tt 1).trans (gt 1 (by decide)), oo (r + 5) (by omega) (by omega) (by omega) 0⟩ (T.cg (fun j hj => (tt j).trans (gt j hj))) ?_⟩
        by_cases c60 : 60 ≤ pa
        · rw [if_pos c60] at g2 ⊢
          exact ⟨(tt 2).trans g2, fun y => absurd y (rfF_ne (fa := 0) (q := q) (c := 3) (by omega) (by omega))⟩
        · rw [if_neg c60] at g2 ⊢
          refine ⟨(tt 2).trans g2, R1.cg (rr 5 (by decide) (by decide) (by decide)) (oo (r + 4) (by omega) (by omega) (by omega)), R2.cg (rr 6 (by decide) (by decide) (by decide)) (rr 7 (by decide) (by decide) (by decide)), ?_, ⟨?_, (rr 9 (by decide) (by decide) (by decide)).trans R5, by rw [hI_sI, if_pos rfl, if_pos rfl]⟩, R7.cg (fun j _ => oo (r + 5) (by omega) (by omega) (by omega) j), fun z => by rw [oo (r + 5) (by omega) (by omega) (by omega)]; exact R8 (hbe z)⟩
          · rw [← List.append_assoc]
            exact O2.cg (by rw [hI_sI, if_pos rfl, if_neg (by decide)]) (fun j => by rw [hI_sI, if_neg (by omega)])
          · rw [hI_sI, if_pos rfl, if_neg (by decide), g3 8 (by decide)]
            exact g8
      simp only [rV_none, rt_i, rt_b0, rt_b1, rt_v, rt_l, rt_o, rt_a, rV_none, rI_some, rL_some, rR_some, rT_some, rt_bI, hIf_sL, hIf_sR, hS_sI, hS_sL, hS_sR, hS_cpI, hR_sI, hR_sL, hR_cpI, hL_sI, hL_sR, hL_cpI, hI_sL, hI_sR, hN_sI, hN_sL, hN_sR, hN_cpI, hU_sI, hU_sL, hU_sR, hU_cpI, tn0, tn1, tn2, tn3, tn4, tn5, tn6, tn7, tn8, tn9, tn10, tn11, tn12, tn13, tn14, tn15, tn16, tn17, tn18, tn19, tn20, tn21, tn22, tn23, tn24, tn25, tn26, tn27, tn28, tn29, tn30, tn31, tn32, tn33, tn34, tn35, tn36, tn37, tn38, tn39, tn40, tn41, tn42, tn43, tn44, tn45, tn46, tn47, tn48, tn49, tn50, tn51, tn52, tn53, tn54, tn55, tn56, tn57, tn58, tn59, tn60, lH_eq, true_and, and_true, H1.1, H1.2.1, st1, v51]
      refine ⟨fun y => ?_, fun y => ?_⟩
      · refine go _ ?_
        have c5 := c1.resolve_left y
        obtain ⟨x, hx, ex⟩ := rn_of (n := 12) (by decide) ⟨c5.2.1, c5.2.2⟩
        rw [if_neg y, ex, nI_clamp (by omega)]
        rfl
      · refine go _ ?_
        have y := Decidable.not_not.mp y
        obtain ⟨x, hx, ex⟩ := val_nat y (Int32.not_lt.mpr z)
        rw [if_pos y, ex, nI_clamp (by omega)]
        rfl
    · rw [if_pos (Int32.not_le.mp z)] at k
      refine sp_refK (by omega) r n q 1 t (by omega) (by omega) HT T e2 (fun h' f a b c => ?_)
      rw [rV_none]
      exact ⟨f.2.2.1, f.2.2.2.1, k h' f a b c⟩
  have r55 : Reach e nX7_takeValue (55, [.ref r, .int (nI beh), .int (bI (tkK t n q = 1)), .float 0], [.int (bI (tkK t n q = 2 ∧ 0 ≤ tkV t n q ∧ tkV t n q < 12))]) h (hN h) (hU h) Q := by
    refine wX7_takeValue_55 (by omega) r (nI beh) _ _ ?_
    simp only [bI0, rt_i, rt_b0, rt_b1, rt_v, rt_l, rt_o, rt_a, rV_none, rI_some, rL_some, rR_some, rT_some, rt_bI, hIf_sL, hIf_sR, hS_sI, hS_sL, hS_sR, hS_cpI, hR_sI, hR_sL, hR_cpI, hL_sI, hL_sR, hL_cpI, hI_sL, hI_sR, hN_sI, hN_sL, hN_sR, hN_cpI, hU_sI, hU_sL, hU_sR, hU_cpI, tn0, tn1, tn2, tn3, tn4, tn5, tn6, tn7, tn8, tn9, tn10, tn11, tn12, tn13, tn14, tn15, tn16, tn17, tn18, tn19, tn20, tn21, tn22, tn23, tn24, tn25, tn26, tn27, tn28, tn29, tn30, tn31, tn32, tn33, tn34, tn35, tn36, tn37, tn38, tn39, tn40, tn41, tn42, tn43, tn44, tn45, tn46, tn47, tn48, tn49, tn50, tn51, tn52, tn53, tn54, tn55, tn56, tn57, tn58, tn59, tn60, lH_eq, true_and, and_true, H.1, H.2.1, HT.1]
    refine ⟨fun z => r75 (Or.inl (Decidable.not_not.mp z)), fun z => ⟨fun y => r75 (Or.inr (Decidable.not_not.mp y)), fun y => ?_⟩⟩
    rw [if_pos ⟨z, y⟩] at k
    refine sp_refK (by omega) r n q 0 t (by omega) (by omega) HT T e2 (fun h' f a b c => ?_)
    rw [rV_none]
    exact ⟨f.2.2.1, f.2.2.2.1, k h' f a b c⟩
  have r16 : Reach e nX7_takeValue (16, [.ref r, .int (nI beh), .float 0, .float 0], [.int (bI (tkK t n q = 1))]) h (hN h) (hU h) Q := by
    refine wX7_takeValue_16 (by omega) r (nI beh) _ ?_
    simp only [H.1, H.2.1, HT.1, T.2.1, k2, true_and]
    have no : ¬ (tkK t n q = 2 ∧ 0 ≤ tkV t n q ∧ tkV t n q < 12) → Reach e nX7_takeValue (54, [.ref r, .int (nI beh), .int (bI (tkK t n q = 1)), .float 0], []) h (hN h) (hU h) Q := fun z => by
      refine wX7_takeValue_54 (by omega) r (nI beh) _ ?_
      rw [bI_f z] at r55
      exact r55
    refine ⟨fun z => no (fun y => z y.1), fun z => ?_⟩
    rw [T.2.2.1 (tkK_lt (t := t) (show ¬ tkK t n q = 0 by omega))]
    refine ⟨fun y => no (fun x => absurd y (Int32.not_lt.mpr x.2.1)), fun y => ⟨fun x => no (fun w => absurd w.2.2 (Int32.not_lt.mpr x)), fun x => ?_⟩⟩
    rw [bI_t (show tkK t n q = 2 ∧ 0 ≤ tkV t n q ∧ tkV t n q < 12 from ⟨z, Int32.not_lt.mp y, Int32.not_le.mp x⟩)] at r55
    exact r55
  refine wX7_takeValue (by omega) r (nI beh) ?_
  simp only [H.1, H.2.1, HT.1, T.2.1, k1, true_and]
  refine ⟨fun z => ?_, fun z => ?_⟩
  · rw [bI_f z] at r16
    exact r16
  · rw [bI_t z] at r16
    exact r16
