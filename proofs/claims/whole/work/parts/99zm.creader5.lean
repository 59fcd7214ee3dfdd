theorem sp_endSum {d : Nat} {h : AH} {Q : Option Value → AH → Prop} (hd : 8 ≤ d) (r nc : Nat) (pile : List Nat) (out : List (Nat × Nat)) (hnc : nc ≤ 11) (hv : ∀ k ∈ pile, 2 ≤ k ∧ k < 16) (hl : pile.length ≤ 35) (hs : out.length + pile.length ≤ 400) (hr : rstL 0 pile = []) (H : RdS h r) (P : RdP h r pile) (D : RdD h r pile) (O : RdO h r out) (e9 : hI h r 9 = nI nc) (k : ∀ h', Fr' h h' (fun c => c = r ∨ c = r + 3 ∨ c = r + 5) → (∀ j, j ≠ 4 → j ≠ 5 → j ≠ 6 → hI h' r j = hI h r j) → RdP h' r [] → RdD h' r [] → RdO h' r (out ++ emL 0 pile) → (∀ j, hI h' (r + 5) j = if j = 2 * nc + 1 then nI (out ++ emL 0 pile).length else hI h (r + 5) j) → Q none h') : Calls d nX7_endSum [.ref r] h (hN h) (hU h) Q := by
  obtain ⟨e, rfl⟩ : ∃ e, d = e + 1 := ⟨d - 1, by omega⟩
  refine wX7_endSum (by omega) r ?_
  simp only [H.1, true_and]
  refine sp_release (by omega) r 0 (by omega) pile out hv hl hs H P D O (fun h1 f1 g1 P1 D1 O1 => ?_)
  have H1 := H.fr f1
  have e91 : hI h1 r 9 = nI nc := (g1 9 (by decide) (by decide) (by decide)).trans e9
  have ix : 2 * nI nc + 1 = nI (2 * nc + 1) := by rw [nI_two, nI_1]
  rw [hr] at P1 D1
  simp only [rV_none, rt_i, rt_b0, rt_b1, rt_v, rt_l, rt_o, rt_a, rV_none, rI_some, rL_some, rR_some, rT_some, rt_bI, hIf_sL, hIf_sR, hS_sI, hS_sL, hS_sR, hS_cpI, hR_sI, hR_sL, hR_cpI, hL_sI, hL_sR, hL_cpI, hI_sL, hI_sR, hN_sI, hN_sL, hN_sR, hN_cpI, hU_sI, hU_sL, hU_sR, hU_cpI, tn0, tn1, tn2, tn3, tn4, tn5, tn6, tn7, tn8, tn9, tn10, tn11, tn12, tn13, tn14, tn15, tn16, tn17, tn18, tn19, tn20, tn21, tn22, tn23, tn24, tn25, tn26, tn27, tn28, tn29, tn30, tn31, tn32, tn33, tn34, tn35, tn36, tn37, tn38, tn39, tn40, tn41, tn42, tn43, tn44, tn45, tn46, tn47, tn48, tn49, tn50, tn51, tn52, tn53, tn54, tn55, tn56, tn57, tn58, tn59, tn60, lH_eq, true_and, and_true, H1.1, H1.2.2.2.2.1, H1.2.2.2.2.2.2.2, e91, ix, O1.1, vp_in_nI (show 2 * nc + 1 < 25 by omega) (show 25 < 2 ^ 31 by omega), nI_clamp (show 2 * nc + 1 < 2 ^ 31 by omega)]
  have F : Fr' h (sI h1 (r + 5) (2 * nc + 1) (nI (out ++ emL 0 pile).length)) (fun c => c = r ∨ c = r + 3 ∨ c = r + 5) := (f1.mono (fun c z => by omega)).trans (Fr'.sI (by omega))
  have g : ∀ j, hI (sI h1 (r + 5) (2 * nc + 1) (nI (out ++ emL 0 pile).length)) r j = hI h1 r j := fun j => by rw [hI_sI, if_neg (by omega)]
  refine ⟨F.2.2.1, F.2.2.2.1, k _ F (fun j a b c => (g j).trans (g1 j a b c)) (P1.cg (g 5) (fun j => by rw [hI_sI, if_neg (by omega)])) (D1.cg (g 6) (g 7)) (O1.cg (g 4) (fun j => by rw [hI_sI, if_neg (by omega)])) (fun j => ?_)⟩
  rw [hI_sI, if_pos rfl, f1.2.2.2.2.1 (r + 5) (by omega)]
theorem sp_endClause {d : Nat} {h : AH} {Q : Option Value → AH → Prop} (hd : 9 ≤ d) (r n p q st pa : Nat) (pile : List Nat) (cl : List (List (Nat × Nat) × List (Nat × Nat))) (su s : List (Nat × Nat)) (t : Nat → Int32) (hp : p ≤ 400) (I : mInv (p, st, pile, pa, cl, su, s)) (hst : ((st = 6 ∨ st = 8) ∧ brc pile = 0) ∨ st = 2) (H : RdS h r) (R : RdIs h r (p, st, pile, pa, cl, su, s)) (HT : TxS h (r + 1) n t) (T : TxAt h (r + 1) t n q) (e2 : hI h (r + 1) 2 = 0) (k : KT h r n q t (if tkK t n q = 0 then .inl (0, cl ++ [if st = 2 then (s ++ emL 0 pile, []) else (su, s ++ emL 0 pile)]) else .inr (tkE t n q, 0, [], pa, cl ++ [if st = 2 then (s ++ emL 0 pile, []) else (su, s ++ emL 0 pile)], [], [])) Q) : Calls d nX7_endClause [.ref r] h (hN h) (hU h) Q := by
  obtain ⟨e, rfl⟩ : ∃ e, d = e + 1 := ⟨d - 1, by omega⟩
  have hK := tkK_le t n q
  have k0 : ((nI (tkK t n q)) = (0 : Int32)) = (tkK t n q = 0) := nI_eq_iff (b := 0) (by omega) (by decide)
  have hall := I.1.all
  have fc := fin_cl I hst
  obtain ⟨-, hr0, hlen⟩ := fc
  obtain ⟨hP, ⟨i1, i2, i3, i4⟩, i5, -, ⟨j1, j2, j3, j4⟩, -⟩ := I
  have c11 := i4 (by omega)
  obtain ⟨R1, R2, R3, ⟨R4, R5, R6⟩, R7, R8⟩ := R
  have es2 : (hI h r 10 = (2 : Int32)) = (st = 2) := by rw [R6]; exact nI_eq_iff (b := 2) (by omega) (by decide)
  have ix : 2 * nI cl.length + 2 = nI (2 * cl.length + 2) := by rw [nI_two]; exact nI_add _ 2
  have tail : ∀ h1, Fr' h h1 (RB r) → (∀ j, j ≠ 4 → j ≠ 5 → j ≠ 6 → hI h1 r j = hI h r j) → (∀ j, hI h1 (r + 1) j = hI h (r + 1) j) → RdP h1 r [] → RdD h1 r [] → RdO h1 r (flK cl ++ su ++ s ++ emL 0 pile) → (∀ j, j ≤ 2 * cl.length → hI h1 (r + 5) j = hI h (r + 5) j) → hI h1 (r + 5) (2 * cl.length + 1) = nI ((flK cl).length + (if st = 2 then (s ++ emL 0 pile, []) else (su, s ++ emL 0 pile) : List (Nat × Nat) × List (Nat × Nat)).1.length) → (∀ v, (v = 0 ∧ ¬ tkK t n q = 0) ∨ (v = 9 ∧ tkK t n q = 0) → Q none (sI (sI (sI h1 (r + 5) (2 * cl.length + 2) (nI (flK cl ++ su ++ s ++ emL 0 pile).length)) r 9 (nI (cl.length + 1))) r 10 v)) := fun h1 F1 g1 gt P1 D1 O1 b1 b2 v hv => by
    have F : Fr' h (sI (sI (sI h1 (r + 5) (2 * cl.length + 2) (nI (flK cl ++ su ++ s ++ emL 0 pile).length)) r 9 (nI (cl.length + 1))) r 10 v) (RB r) := ((F1.trans (Fr'.sI (by unfold RB; omega))).trans (Fr'.sI (by unfold RB; omega))).trans (Fr'.sI (by unfold RB; omega))
    have g : ∀ j, j ≠ 9 → j ≠ 10 → hI (sI (sI (sI h1 (r + 5) (2 * cl.length + 2) (nI (flK cl ++ su ++ s ++ emL 0 pile).length)) r 9 (nI (cl.length + 1))) r 10 v) r j = hI h1 r j := fun j a b => by rw [hI_sI, if_pos rfl, if_neg b, hI_sI, if_pos rfl, if_neg a, hI_sI, if_neg (by omega)]
    have g9 : hI (sI (sI (sI h1 (r + 5) (2 * cl.length + 2) (nI (flK cl ++ su ++ s ++ emL 0 pile).length)) r 9 (nI (cl.length + 1))) r 10 v) r 9 = nI (cl.length + 1) := by rw [hI_sI, if_pos rfl, if_neg (by decide), hI_sI, if_pos rfl, if_pos rfl]
    have g10 : hI (sI (sI (sI h1 (r + 5) (2 * cl.length + 2) (nI (flK cl ++ su ++ s ++ emL 0 pile).length)) r 9 (nI (cl.length + 1))) r 10 v) r 10 = v := by rw [hI_sI, if_pos rfl, if_pos rfl]
    have o : ∀ c, c ≠ r → c ≠ r + 5 → ∀ j, hI (sI (sI (sI h1 (r + 5) (2 * cl.length + 2) (nI (flK cl ++ su ++ s ++ emL 0 pile).length)) r 9 (nI (cl.length + 1))) r 10 v) c j = hI h1 c j := fun c a b j => by rw [hI_sI, if_neg a, hI_sI, if_neg a, hI_sI, if_neg b]
    have o5 : ∀ j, hI (sI (sI (sI h1 (r + 5) (2 * cl.length + 2) (nI (flK cl ++ su ++ s ++ emL 0 pile).length)) r 9 (nI (cl.length + 1))) r 10 v) (r + 5) j = if j = 2 * cl.length + 2 then nI (flK cl ++ su ++ s ++ emL 0 pile).length else hI h1 (r + 5) j := fun j => by rw [hI_sI, if_neg (by omega), hI_sI, if_neg (by omega), hI_sI, if_pos rfl]
    generalize sI (sI (sI h1 (r + 5) (2 * cl.length + 2) (nI (flK cl ++ su ++ s ++ emL 0 pile).length)) r 9 (nI (cl.length + 1))) r 10 v = h2 at *
    have tt : ∀ j, hI h2 (r + 1) j = hI h (r + 1) j := fun j => (o (r + 1) (by omega) (by omega) j).trans (gt j)
    have ef : flK cl ++ su ++ s ++ emL 0 pile = flK (cl ++ [if st = 2 then (s ++ emL 0 pile, []) else (su, s ++ emL 0 pile)]) := by
      rw [flK_app]
      by_cases c : st = 2
      · rw [if_pos c, j2 (by omega)]; simp
      · rw [if_neg c]; simp
    have O2 : RdO h2 r (flK (cl ++ [if st = 2 then (s ++ emL 0 pile, []) else (su, s ++ emL 0 pile)])) := by
      rw [← ef]
      exact O1.cg (g 4 (by decide) (by decide)) (o (r + 3) (by omega) (by omega))
    have lt := congrArg List.length ef
    have B2 : bdC (hI h2 (r + 5)) 0 0 (cl ++ [if st = 2 then (s ++ emL 0 pile, []) else (su, s ++ emL 0 pile)]) := by
      refine (R7.cg (fun j hj => ?_)).app ?_ ?_
      · rw [o5, if_neg (by omega)]
        exact b1 j (by omega)
      · rw [o5, if_neg (by omega), Nat.zero_add, Nat.zero_add, b2]
      · rw [o5, if_pos (by omega), lt, flK_app]
        congr 1
        simp only [List.length_append]
        omega
    refine k h2 F ⟨tt 1, by rw [o5, if_neg (by omega)]; exact b1 0 (Nat.zero_le _)⟩ (T.cg (fun j _ => tt j)) ?_
    rcases hv with ⟨rfl, hv⟩ | ⟨rfl, hv⟩
    · rw [if_neg hv]
      refine ⟨(tt 2).trans e2, P1.cg (g 5 (by decide) (by decide)) (o (r + 4) (by omega) (by omega)), D1.cg (g 6 (by decide) (by decide)) (g 7 (by decide) (by decide)), by rw [List.append_nil, List.append_nil]; exact O2, ⟨((g 8 (by decide) (by decide)).trans (g1 8 (by decide) (by decide) (by decide))).trans R4, by rw [g9]; simp, g10⟩, B2, fun z => by omega⟩
    · rw [if_pos hv]
      exact ⟨(tt 2).trans e2, fun _ => ⟨g10, O2, by rw [g9]; simp, B2⟩⟩
  refine wX7_endClause (by omega) r ?_
  simp only [H.1, es2, true_and]
  refine ⟨fun z => ?_, fun z => ?_⟩
  · refine sp_release (by omega) r 0 (by omega) pile (flK cl ++ su ++ s) hall.2 hall.1 (by omega) H R1 R2 R3 (fun h1 f1 g1 P1 D1 O1 => ?_)
    have H1 := H.fr f1
    rw [hr0] at P1 D1
    have e91 : hI h1 r 9 = nI cl.length := (g1 9 (by decide) (by decide) (by decide)).trans R5
    have gt : ∀ j, hI h1 (r + 1) j = hI h (r + 1) j := f1.2.2.2.2.1 (r + 1) (by omega)
    have st1 : hS h1 (r + 1) = (18, 7) := by rw [f1.1]; exact HT.1
    have e41 : hI h1 (r + 1) 4 = nI (tkK t n q) := (gt 4).trans T.2.1
    have nr5 : (r = r + 5) = False := eq_false (by omega)
    have n15 : (r + 1 = r + 5) = False := eq_false (by omega)
    have n1r : (r + 1 = r) = False := eq_false (by omega)
    simp only [rV_none, rt_i, rt_b0, rt_b1, rt_v, rt_l, rt_o, rt_a, rV_none, rI_some, rL_some, rR_some, rT_some, rt_bI, hIf_sL, hIf_sR, hS_sI, hS_sL, hS_sR, hS_cpI, hR_sI, hR_sL, hR_cpI, hL_sI, hL_sR, hL_cpI, hI_sL, hI_sR, hN_sI, hN_sL, hN_sR, hN_cpI, hU_sI, hU_sL, hU_sR, hU_cpI, tn0, tn1, tn2, tn3, tn4, tn5, tn6, tn7, tn8, tn9, tn10, tn11, tn12, tn13, tn14, tn15, tn16, tn17, tn18, tn19, tn20, tn21, tn22, tn23, tn24, tn25, tn26, tn27, tn28, tn29, tn30, tn31, tn32, tn33, tn34, tn35, tn36, tn37, tn38, tn39, tn40, tn41, tn42, tn43, tn44, tn45, tn46, tn47, tn48, tn49, tn50, tn51, tn52, tn53, tn54, tn55, tn56, tn57, tn58, tn59, tn60, lH_eq, true_and, and_true, H1.1, H1.2.1, H1.2.2.2.2.1, H1.2.2.2.2.2.2.2, e91, ix, O1.1, vp_in_nI (show 2 * cl.length + 2 < 25 by omega) (show 25 < 2 ^ 31 by omega), nI_clamp (show 2 * cl.length + 2 < 2 ^ 31 by omega), hI_sI, nr5, n15, n1r, if_false, nI_1, st1, e41, k0]
    have b2 : hI h1 (r + 5) (2 * cl.length + 1) = nI ((flK cl).length + (if st = 2 then (s ++ emL 0 pile, []) else (su, s ++ emL 0 pile) : List (Nat × Nat) × List (Nat × Nat)).1.length) := by
      rw [if_neg z, f1.2.2.2.2.1 (r + 5) (by omega), R8 (by omega)]
      simp
    have TL := tail h1 (f1.mono (fun c z => by unfold RB; omega)) g1 gt P1 D1 O1 (fun j _ => f1.2.2.2.2.1 (r + 5) (by omega) j) b2
    exact ⟨fun y => ⟨f1.2.2.1, f1.2.2.2.1, TL 0 (Or.inl ⟨rfl, y⟩)⟩, fun y => ⟨f1.2.2.1, f1.2.2.2.1, TL 9 (Or.inr ⟨rfl, y⟩)⟩⟩
  · refine sp_endSum (by omega) r cl.length pile (flK cl ++ su ++ s) c11 hall.2 hall.1 (by omega) hr0 H R1 R2 R3 R5 (fun h1 f1 g1 P1 D1 O1 b1 => ?_)
    have H1 := H.fr f1
    simp only [rV_none, H1.1, true_and]
    refine sp_release (by omega) r 0 (by omega) [] (flK cl ++ su ++ s ++ emL 0 pile) (by simp) (by simp) ?_ H1 P1 D1 O1 (fun h2 f2 g2 P2 D2 O2 => ?_)
    · have := ems_len (th := 0) pile
      simp only [List.length_append, List.length_nil] at *
      omega
    have H2 := H1.fr f2
    have O2 : RdO h2 r (flK cl ++ su ++ s ++ emL 0 pile) := by rw [show emL 0 [] = [] from rfl, List.append_nil] at O2; exact O2
    have gg : ∀ j, j ≠ 4 → j ≠ 5 → j ≠ 6 → hI h2 r j = hI h r j := fun j a b c => (g2 j a b c).trans (g1 j a b c)
    have e92 : hI h2 r 9 = nI cl.length := (gg 9 (by decide) (by decide) (by decide)).trans R5
    have gt : ∀ j, hI h2 (r + 1) j = hI h (r + 1) j := fun j => by rw [f2.2.2.2.2.1 (r + 1) (by omega), f1.2.2.2.2.1 (r + 1) (by omega)]
    have F2 : Fr' h h2 (RB r) := (f1.mono (fun c z => by unfold RB; omega)).trans (f2.mono (fun c z => by unfold RB; omega))
    have st2 : hS h2 (r + 1) = (18, 7) := by rw [F2.1]; exact HT.1
    have e42 : hI h2 (r + 1) 4 = nI (tkK t n q) := (gt 4).trans T.2.1
    have nr5 : (r = r + 5) = False := eq_false (by omega)
    have n15 : (r + 1 = r + 5) = False := eq_false (by omega)
    have n1r : (r + 1 = r) = False := eq_false (by omega)
    simp only [rV_none, rt_i, rt_b0, rt_b1, rt_v, rt_l, rt_o, rt_a, rV_none, rI_some, rL_some, rR_some, rT_some, rt_bI, hIf_sL, hIf_sR, hS_sI, hS_sL, hS_sR, hS_cpI, hR_sI, hR_sL, hR_cpI, hL_sI, hL_sR, hL_cpI, hI_sL, hI_sR, hN_sI, hN_sL, hN_sR, hN_cpI, hU_sI, hU_sL, hU_sR, hU_cpI, tn0, tn1, tn2, tn3, tn4, tn5, tn6, tn7, tn8, tn9, tn10, tn11, tn12, tn13, tn14, tn15, tn16, tn17, tn18, tn19, tn20, tn21, tn22, tn23, tn24, tn25, tn26, tn27, tn28, tn29, tn30, tn31, tn32, tn33, tn34, tn35, tn36, tn37, tn38, tn39, tn40, tn41, tn42, tn43, tn44, tn45, tn46, tn47, tn48, tn49, tn50, tn51, tn52, tn53, tn54, tn55, tn56, tn57, tn58, tn59, tn60, lH_eq, true_and, and_true, H2.1, H2.2.1, H2.2.2.2.2.1, H2.2.2.2.2.2.2.2, e92, ix, O2.1, vp_in_nI (show 2 * cl.length + 2 < 25 by omega) (show 25 < 2 ^ 31 by omega), nI_clamp (show 2 * cl.length + 2 < 2 ^ 31 by omega), hI_sI, nr5, n15, n1r, if_false, nI_1, st2, e42, k0]
    have b5 : ∀ j, hI h2 (r + 5) j = if j = 2 * cl.length + 1 then nI (flK cl ++ su ++ s ++ emL 0 pile).length else hI h (r + 5) j := fun j => by rw [f2.2.2.2.2.1 (r + 5) (by omega), b1]
    have hsu : su = [] := j2 (by omega)
    have b2 : hI h2 (r + 5) (2 * cl.length + 1) = nI ((flK cl).length + (if st = 2 then (s ++ emL 0 pile, []) else (su, s ++ emL 0 pile) : List (Nat × Nat) × List (Nat × Nat)).1.length) := by
      rw [if_pos z, b5, if_pos rfl, hsu]
      simp
    have TL := tail h2 F2 gg gt P2 D2 O2 (fun j hj => by rw [b5, if_neg (by omega)]) b2
    exact ⟨fun y => ⟨F2.2.2.1, F2.2.2.2.1, TL 0 (Or.inl ⟨rfl, y⟩)⟩, fun y => ⟨F2.2.2.1, F2.2.2.2.1, TL 9 (Or.inr ⟨rfl, y⟩)⟩⟩
