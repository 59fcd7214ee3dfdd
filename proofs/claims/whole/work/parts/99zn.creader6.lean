theorem pc_31 : ∀ k, k < 17 → 2 ≤ k → (((pcI k = -30) ↔ k = 10) ∧ ((pcI k = -31) ↔ k = 11)) := by decide
theorem tgI_5 : ∀ k, k < 17 → 2 ≤ k → ((tgI k < 5) ↔ ¬ 5 ≤ tgO k) := by decide
theorem tgI_4 : ∀ k, k < 17 → 2 ≤ k → ((tgI k = 4) ↔ tgO k = 4) := by decide
theorem sgO_r (v : Int32) : 2 ≤ sgO v ∧ sgO v ≤ 16 := by
  unfold sgO
  repeat' split
  all_goals omega
theorem tkO_r (t : Nat → Int32) (n q : Nat) : 2 ≤ tkO t n q ∧ tkO t n q ≤ 16 := by
  unfold tkO
  split
  · exact sgO_r _
  · split
    · omega
    · split <;> omega
theorem sp_closeB {d : Nat} {h : AH} {Q : Option Value → AH → Prop} (hd : 8 ≤ d) (r n p q st pa : Nat) (pile l' : List Nat) (cl : List (List (Nat × Nat) × List (Nat × Nat))) (su s : List (Nat × Nat)) (t : Nat → Int32) (hp : p ≤ 400) (I : mInv (p, st, pile, pa, cl, su, s)) (hst : 3 ≤ st) (hl' : rstL 0 pile = 12 :: l') (H : RdS h r) (R : RdIs h r (p, st, pile, pa, cl, su, s)) (T : TxAt h (r + 1) t n q) (e2 : hI h (r + 1) 2 = 0) (k : KT h r n q t (.inr (tkE t n q, 8, l', pa, cl, su, s ++ emL 0 pile)) Q) : Calls d nX7_closeBracket [.ref r] h (hN h) (hU h) Q := by
  obtain ⟨e, rfl⟩ : ∃ e, d = e + 1 := ⟨d - 1, by omega⟩
  have hall := I.1.all
  have i5 := I.2.2.1
  obtain ⟨R1, R2, R3, ⟨R4, R5, R6⟩, R7, R8⟩ := R
  refine wX7_closeBracket (by omega) r ?_
  simp only [H.1, true_and]
  refine sp_release (by omega) r 0 (by omega) pile (flK cl ++ su ++ s) hall.2 hall.1 (by omega) H R1 R2 R3 (fun h1 f1 g1 P1 D1 O1 => ?_)
  have H1 := H.fr f1
  rw [hl'] at P1 D1
  have hll : l'.length + 1 ≤ 35 := by
    have := ems_len (th := 0) pile
    rw [hl'] at this
    simp at this
    omega
  have e5 : hI h1 r 5 = nI (l'.length + 1) := P1.1
  have e6 : hI h1 r 6 = nI (dpt l' + 1) := by rw [D1.1, dpt_c, if_pos (Or.inr rfl), Nat.add_comm]
  have e7 : hI h1 r 7 = nI (brc l' + 1) := by rw [D1.2, brc_c, if_pos rfl, Nat.add_comm]
  have le : ((nI (l'.length + 1)) ≤ (0 : Int32)) = (l'.length + 1 ≤ 0) := nI_le_iff (b := 0) (by omega) (by decide)
  simp only [rV_none, rt_i, rt_b0, rt_b1, rt_v, rt_l, rt_o, rt_a, rV_none, rI_some, rL_some, rR_some, rT_some, rt_bI, hIf_sL, hIf_sR, hS_sI, hS_sL, hS_sR, hS_cpI, hR_sI, hR_sL, hR_cpI, hL_sI, hL_sR, hL_cpI, hI_sL, hI_sR, hN_sI, hN_sL, hN_sR, hN_cpI, hU_sI, hU_sL, hU_sR, hU_cpI, tn0, tn1, tn2, tn3, tn4, tn5, tn6, tn7, tn8, tn9, tn10, tn11, tn12, tn13, tn14, tn15, tn16, tn17, tn18, tn19, tn20, tn21, tn22, tn23, tn24, tn25, tn26, tn27, tn28, tn29, tn30, tn31, tn32, tn33, tn34, tn35, tn36, tn37, tn38, tn39, tn40, tn41, tn42, tn43, tn44, tn45, tn46, tn47, tn48, tn49, tn50, tn51, tn52, tn53, tn54, tn55, tn56, tn57, tn58, tn59, tn60, lH_eq, true_and, and_true, H1.1, e5, e6, e7, le, hI_sI, if_true, Nat.reduceEqDiff, if_false, nI_sub1]
  refine ⟨fun z => absurd z (by omega), fun _ => ?_⟩
  have F : Fr' h (sI (sI (sI (sI h1 r 5 (nI l'.length)) r 7 (nI (brc l'))) r 6 (nI (dpt l'))) r 10 8) (RB r) := ((((f1.mono (fun c z => by unfold RB; omega)).trans (Fr'.sI (by unfold RB; omega))).trans (Fr'.sI (by unfold RB; omega))).trans (Fr'.sI (by unfold RB; omega))).trans (Fr'.sI (by unfold RB; omega))
  have o : ∀ c, c ≠ r → ∀ j, hI (sI (sI (sI (sI h1 r 5 (nI l'.length)) r 7 (nI (brc l'))) r 6 (nI (dpt l'))) r 10 8) c j = hI h1 c j := fun c a j => by rw [hI_sI, if_neg a, hI_sI, if_neg a, hI_sI, if_neg a, hI_sI, if_neg a]
  have g : ∀ j, j ≠ 5 → j ≠ 6 → j ≠ 7 → j ≠ 10 → hI (sI (sI (sI (sI h1 r 5 (nI l'.length)) r 7 (nI (brc l'))) r 6 (nI (dpt l'))) r 10 8) r j = hI h1 r j := fun j a b c d => by rw [hI_sI, if_pos rfl, if_neg d, hI_sI, if_pos rfl, if_neg b, hI_sI, if_pos rfl, if_neg c, hI_sI, if_pos rfl, if_neg a]
  have x5 : hI (sI (sI (sI (sI h1 r 5 (nI l'.length)) r 7 (nI (brc l'))) r 6 (nI (dpt l'))) r 10 8) r 5 = nI l'.length := by simp [hI_sI]
  have x6 : hI (sI (sI (sI (sI h1 r 5 (nI l'.length)) r 7 (nI (brc l'))) r 6 (nI (dpt l'))) r 10 8) r 6 = nI (dpt l') := by simp [hI_sI]
  have x7 : hI (sI (sI (sI (sI h1 r 5 (nI l'.length)) r 7 (nI (brc l'))) r 6 (nI (dpt l'))) r 10 8) r 7 = nI (brc l') := by simp [hI_sI]
  have x10 : hI (sI (sI (sI (sI h1 r 5 (nI l'.length)) r 7 (nI (brc l'))) r 6 (nI (dpt l'))) r 10 8) r 10 = nI 8 := by simp [hI_sI]; rfl
  generalize sI (sI (sI (sI h1 r 5 (nI l'.length)) r 7 (nI (brc l'))) r 6 (nI (dpt l'))) r 10 8 = h2 at *
  have tt : ∀ j, hI h2 (r + 1) j = hI h (r + 1) j := fun j => by rw [o (r + 1) (by omega), f1.2.2.2.2.1 (r + 1) (by omega)]
  refine ⟨f1.2.2.1, f1.2.2.2.1, k h2 F ⟨tt 1, by rw [o (r + 5) (by omega), f1.2.2.2.2.1 (r + 5) (by omega)]⟩ (T.cg (fun j _ => tt j)) ⟨(tt 2).trans e2, ⟨x5, P1.2.2.cg (fun j _ => o (r + 4) (by omega) j)⟩, ⟨x6, x7⟩, ?_, ⟨((g 8 (by decide) (by decide) (by decide) (by decide)).trans (g1 8 (by decide) (by decide) (by decide))).trans R4, ((g 9 (by decide) (by decide) (by decide) (by decide)).trans (g1 9 (by decide) (by decide) (by decide))).trans R5, x10⟩, R7.cg (fun j _ => by rw [o (r + 5) (by omega), f1.2.2.2.2.1 (r + 5) (by omega)]), fun _ => by rw [o (r + 5) (by omega), f1.2.2.2.2.1 (r + 5) (by omega)]; exact R8 hst⟩⟩
  rw [← List.append_assoc]
  exact O1.cg (g 4 (by decide) (by decide) (by decide) (by decide)) (o (r + 3) (by omega))
theorem sp_joinK {d : Nat} {h : AH} {Q : Option Value → AH → Prop} {Q' : Option Value → AH → Prop} (hd : 9 ≤ d) (r n p q st st' pa op : Nat) (pile : List Nat) (cl : List (List (Nat × Nat) × List (Nat × Nat))) (su s : List (Nat × Nat)) (t : Nat → Int32) (hv : ∀ k ∈ pile, 2 ≤ k ∧ k < 16) (hl : pile.length ≤ 35) (hl2 : (rstL (tgO op - 1) pile).length < 35) (ho : (flK cl ++ su ++ s).length + pile.length ≤ 400) (h2 : 2 ≤ op) (h16 : op < 16) (h1 : 1 ≤ tgO op) (h9 : op ≠ 9) (h12 : op ≠ 12) (h3 : 3 ≤ st' → 3 ≤ st) (H : RdS h r) (R : RdIs h r (p, st, pile, pa, cl, su, s)) (T : TxAt h (r + 1) t n q) (e2 : hI h (r + 1) 2 = 0) (k : KT h r n q t (.inr (tkE t n q, st', op :: rstL (tgO op - 1) pile, pa, cl, su, s ++ emL (tgO op - 1) pile)) Q) (kk : ∀ h1, RdS h1 r → hI h1 r 10 = nI st → hN h1 = hN h → hU h1 = hU h → Q none (sI h1 r 10 (nI st')) → Q' none h1) : Calls d nX7_join [.ref r, .int (pcI op)] h (hN h) (hU h) Q' := by
  obtain ⟨R1, R2, R3, ⟨R4, R5, R6⟩, R7, R8⟩ := R
  refine sp_join (by omega) r op pile (flK cl ++ su ++ s) h2 h16 h1 hv hl hl2 ho H R1 R2 R3 (fun h1 f1 g1 P1 D1 O1 => ?_)
  have H1 := H.fr f1
  have F : Fr' h (sI h1 r 10 (nI st')) (RB r) := (f1.mono (fun c z => by unfold RB; omega)).trans (Fr'.sI (by unfold RB; omega))
  have g : ∀ j, j ≠ 10 → hI (sI h1 r 10 (nI st')) r j = hI h1 r j := fun j a => by rw [hI_sI, if_pos rfl, if_neg a]
  have o : ∀ c, c ≠ r → ∀ j, hI (sI h1 r 10 (nI st')) c j = hI h1 c j := fun c a j => by rw [hI_sI, if_neg a]
  have tt : ∀ j, hI (sI h1 r 10 (nI st')) (r + 1) j = hI h (r + 1) j := fun j => by rw [o (r + 1) (by omega), f1.2.2.2.2.1 (r + 1) (by omega)]
  refine kk h1 H1 ((g1 10 (by decide) (by decide) (by decide)).trans R6) f1.2.2.1 f1.2.2.2.1 (k _ F ⟨tt 1, by rw [o (r + 5) (by omega), f1.2.2.2.2.1 (r + 5) (by omega)]⟩ (T.cg (fun j _ => tt j)) ⟨(tt 2).trans e2, P1.cg (g 5 (by decide)) (o (r + 4) (by omega)), ⟨?_, ?_⟩, ?_, ⟨((g 8 (by decide)).trans (g1 8 (by decide) (by decide) (by decide))).trans R4, ((g 9 (by decide)).trans (g1 9 (by decide) (by decide) (by decide))).trans R5, by rw [hI_sI, if_pos rfl, if_pos rfl]⟩, R7.cg (fun j hj => by rw [o (r + 5) (by omega), f1.2.2.2.2.1 (r + 5) (by omega)]), fun w => by rw [o (r + 5) (by omega), f1.2.2.2.2.1 (r + 5) (by omega)]; exact R8 (h3 w)⟩)
  · rw [g 6 (by decide), D1.1, dpt_c, if_neg (fun c => c.elim h9 h12), Nat.zero_add]
  · rw [g 7 (by decide), D1.2, brc_c, if_neg h12, Nat.zero_add]
  · rw [← List.append_assoc]
    exact O1.cg (g 4 (by decide)) (o (r + 3) (by omega))
theorem sp_signK {d : Nat} {h : AH} {Q : Option Value → AH → Prop} (hd : 10 ≤ d) (r n p q pa op : Nat) (pile : List Nat) (cl : List (List (Nat × Nat) × List (Nat × Nat))) (su s : List (Nat × Nat)) (t : Nat → Int32) (hq : q ≤ 400) (hpa : pa ≤ 60) (hv : ∀ k ∈ pile, 2 ≤ k ∧ k < 16) (hl : pile.length ≤ 35) (hl2 : (rstL 3 pile).length < 35) (ho : (flK cl ++ su ++ s).length + pile.length ≤ 400) (hop : tgO op = 4) (H : RdS h r) (R : RdIs h r (p, 4, pile, pa, cl, su, s)) (HT : TxS h (r + 1) n t) (T : TxAt h (r + 1) t n q) (e2 : hI h (r + 1) 2 = 0) (k : KT h r n q t (if 60 ≤ pa then .inl (rfF 0 q 3, []) else .inr (tkE t n q, 5, op :: rstL 3 pile, pa + 1, cl, su, s ++ emL 3 pile)) Q) : Calls d nX7_countPart [.ref r] h (hN h) (hU h) (fun r2 h1 => rV r2 ((hS h1 r).1 = 10 + 7 ∧ Calls d nX7_join [.ref r, .int (pcI op)] h1 (hN h1) (hU h1) (fun r4 h3 => rV r4 ((hS h3 r).1 = 10 + 7 ∧ hN h3 = hN h ∧ hU h3 = hU h ∧ Q none (sI h3 r 10 5))))) := by
  have gz := tg_4 hop
  obtain ⟨R1, R2, R3, ⟨R4, R5, R6⟩, R7, R8⟩ := R
  refine sp_countPart (by omega) r n q pa t H HT T.1 (by omega) R4 (fun h0 f0 g0 g8 gt gf => ?_)
  rw [e2] at gf
  have H0 := H.fr f0
  have o0 : ∀ c, c ≠ r → c ≠ r + 1 → ∀ j, hI h0 c j = hI h c j := fun c a b => f0.2.2.2.2.1 c (by omega)
  simp only [rV_none, H0.1, true_and]
  have e3 : tgO op - 1 = 3 := by omega
  refine sp_join (by omega) r op pile (flK cl ++ su ++ s) (by omega) (by omega) (by omega) hv hl (by rw [e3]; exact hl2) ho H0 (R1.cg (g0 5 (by decide)) (o0 (r + 4) (by omega) (by omega))) (R2.cg (g0 6 (by decide)) (g0 7 (by decide))) (R3.cg (g0 4 (by decide)) (o0 (r + 3) (by omega) (by omega))) (fun h1 f1 g1 P1 D1 O1 => ?_)
  rw [e3] at P1 D1 O1
  have H1 := H0.fr f1
  rw [rV_none]
  have F : Fr' h (sI h1 r 10 5) (RB r) := ((f0.mono (fun c z => by unfold RB; omega)).trans (f1.mono (fun c z => by unfold RB; omega))).trans (Fr'.sI (by unfold RB; omega))
  have g : ∀ j, j ≠ 10 → hI (sI h1 r 10 5) r j = hI h1 r j := fun j a => by rw [hI_sI, if_pos rfl, if_neg a]
  have o : ∀ c, c ≠ r → ∀ j, hI (sI h1 r 10 5) c j = hI h1 c j := fun c a j => by rw [hI_sI, if_neg a]
  have tt : ∀ j, hI (sI h1 r 10 5) (r + 1) j = hI h0 (r + 1) j := fun j => by rw [o (r + 1) (by omega), f1.2.2.2.2.1 (r + 1) (by omega)]
  refine ⟨by rw [H1.1], F.2.2.1, F.2.2.2.1, k _ F ⟨(tt 1).trans (gt 1 (by decide)), by rw [o (r + 5) (by omega), f1.2.2.2.2.1 (r + 5) (by omega), o0 (r + 5) (by omega) (by omega)]⟩ (T.cg (fun j hj => (tt j).trans (gt j hj))) ?_⟩
  by_cases c60 : 60 ≤ pa
  · rw [if_pos c60] at gf ⊢
    exact ⟨(tt 2).trans gf, fun y => absurd y (rfF_ne (fa := 0) (q := q) (c := 3) hq (by omega))⟩
  · rw [if_neg c60] at gf ⊢
    refine ⟨(tt 2).trans gf, P1.cg (g 5 (by decide)) (o (r + 4) (by omega)), ⟨?_, ?_⟩, ?_, ⟨((g 8 (by decide)).trans (g1 8 (by decide) (by decide) (by decide))).trans g8, (((g 9 (by decide)).trans (g1 9 (by decide) (by decide) (by decide))).trans (g0 9 (by decide))).trans R5, by rw [hI_sI, if_pos rfl, if_pos rfl]; rfl⟩, R7.cg (fun j hj => by rw [o (r + 5) (by omega), f1.2.2.2.2.1 (r + 5) (by omega), o0 (r + 5) (by omega) (by omega)]), fun _ => by rw [o (r + 5) (by omega), f1.2.2.2.2.1 (r + 5) (by omega), o0 (r + 5) (by omega) (by omega)]; exact R8 (by omega)⟩
    · rw [g 6 (by decide), D1.1, dpt_c, if_neg (by omega), Nat.zero_add]
    · rw [g 7 (by decide), D1.2, brc_c, if_neg (by omega), Nat.zero_add]
    · rw [← List.append_assoc]
      exact O1.cg (g 4 (by decide)) (o (r + 3) (by omega))
theorem sp_ifK {d : Nat} {h : AH} {Q : Option Value → AH → Prop} (hd : 9 ≤ d) (r n p q pa : Nat) (pile : List Nat) (cl : List (List (Nat × Nat) × List (Nat × Nat))) (s : List (Nat × Nat)) (t : Nat → Int32) (hc : cl.length ≤ 11) (hv : ∀ k ∈ pile, 2 ≤ k ∧ k < 16) (hl : pile.length ≤ 35) (hr : rstL 0 pile = []) (ho : (flK cl ++ [] ++ s).length + pile.length ≤ 400) (H : RdS h r) (R : RdIs h r (p, 2, pile, pa, cl, [], s)) (T : TxAt h (r + 1) t n q) (e2 : hI h (r + 1) 2 = 0) (k : KT h r n q t (.inr (tkE t n q, 7, [], pa, cl, s ++ emL 0 pile, [])) Q) : Calls d nX7_endSum [.ref r] h (hN h) (hU h) (fun r5 h4 => rV r5 ((hS h4 r).1 = 10 + 7 ∧ hN h4 = hN h ∧ hU h4 = hU h ∧ Q none (sI h4 r 10 7))) := by
  obtain ⟨R1, R2, R3, ⟨R4, R5, R6⟩, R7, R8⟩ := R
  refine sp_endSum (by omega) r cl.length pile (flK cl ++ [] ++ s) hc hv hl ho hr H R1 R2 R3 R5 (fun h1 f1 g1 P1 D1 O1 b1 => ?_)
  have H1 := H.fr f1
  rw [rV_none]
  have F : Fr' h (sI h1 r 10 7) (RB r) := (f1.mono (fun c z => by unfold RB; omega)).trans (Fr'.sI (by unfold RB; omega))
  have g : ∀ j, j ≠ 10 → hI (sI h1 r 10 7) r j = hI h1 r j := fun j a => by rw [hI_sI, if_pos rfl, if_neg a]
  have o : ∀ c, c ≠ r → ∀ j, hI (sI h1 r 10 7) c j = hI h1 c j := fun c a j => by rw [hI_sI, if_neg a]
  have tt : ∀ j, hI (sI h1 r 10 7) (r + 1) j = hI h (r + 1) j := fun j => by rw [o (r + 1) (by omega), f1.2.2.2.2.1 (r + 1) (by omega)]
  refine ⟨by rw [H1.1], F.2.2.1, F.2.2.2.1, k _ F ⟨tt 1, by rw [o (r + 5) (by omega), b1, if_neg (by omega)]⟩ (T.cg (fun j _ => tt j)) ⟨(tt 2).trans e2, P1.cg (g 5 (by decide)) (o (r + 4) (by omega)), D1.cg (g 6 (by decide)) (g 7 (by decide)), ?_, ⟨((g 8 (by decide)).trans (g1 8 (by decide) (by decide) (by decide))).trans R4, ((g 9 (by decide)).trans (g1 9 (by decide) (by decide) (by decide))).trans R5, by rw [hI_sI, if_pos rfl, if_pos rfl]; rfl⟩, R7.cg (fun j hj => by rw [o (r + 5) (by omega), b1, if_neg (by omega)]), fun _ => ?_⟩⟩
  · have := O1.cg (g 4 (by decide)) (o (r + 3) (by omega))
    simpa [List.append_assoc] using this
  · rw [o (r + 5) (by omega), b1, if_pos rfl]
    simp [List.append_assoc]
