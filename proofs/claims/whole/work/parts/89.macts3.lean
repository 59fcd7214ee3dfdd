theorem m_undo {d : Nat} {h : AH} {Q : Option Value → AH → Prop} (hd : 8 ≤ d) (m nr nw : Nat) (A M : PC) (fo x : Int32) (ps : List PC) (ns : List (Nat × Nat × Int32)) (cls : List (List (List (Nat × Nat) × List (Nat × Nat)))) (tp : List Int32) (im : Nat → Option TW) (H : RW h m ((nr, nw, A, fo, x, M, ps, ns), cls, tp, im)) (k0 : ps = [] → Q (some (.int (-2))) h) (k1 : ∀ N qs, ps = qs ++ [N] → ∀ h', Fr' h h' (MZ m) → RW h' m ((nr, nw, A, fo, x, N, qs, ns), cls, tp, im) → Q (some (.int (nI qs.length))) h') : Calls d nX12_undo [.ref m] h (hN h) (hU h) Q := by
  obtain ⟨e, rfl⟩ : ∃ e, d = e + 1 := ⟨d - 1, by omega⟩
  have HM := H.mod
  have h45 : hI h m 45 = nI ps.length := H.2.1.2.2.2.2.2.2.1
  have hl := H.2.1.1.2.2.1
  have c0 : (nI ps.length = 0) = (ps.length = 0) := nI_eq_iff (b := 0) (by omega) (by decide)
  refine wX12_undo (by omega) m ?_
  simp only [rt_i, rt_b0, rt_b1, rt_v, rt_l, rt_o, rt_a, rV_none, rI_some, rL_some, rR_some, rT_some, rt_bI, hIf_sL, hIf_sR, hS_sI, hS_sL, hS_sR, hS_cpI, hR_sI, hR_sL, hR_cpI, hL_sI, hL_sR, hL_cpI, hI_sL, hI_sR, hN_sI, hN_sL, hN_sR, hN_cpI, hU_sI, hU_sL, hU_sR, hU_cpI, tn0, tn1, tn2, tn3, tn4, tn5, tn6, tn7, tn8, tn9, tn10, tn11, tn12, tn13, tn14, tn15, tn16, tn17, tn18, tn19, tn20, tn21, tn22, tn23, tn24, tn25, tn26, tn27, tn28, tn29, tn30, tn31, tn32, tn33, tn34, tn35, tn36, tn37, tn38, tn39, tn40, tn41, tn42, tn43, tn44, tn45, tn46, tn47, tn48, tn49, tn50, tn51, tn52, tn53, tn54, tn55, tn56, tn57, tn58, tn59, tn60, lH_eq, true_and, and_true, mdq_0 HM, h45, c0, hI_sI, if_true]
  refine ⟨fun z => ?_, fun z => k0 (List.length_eq_zero_iff.mp z)⟩
  obtain ⟨qs, N, e⟩ : ∃ qs N, ps = qs ++ [N] := ⟨ps.dropLast, ps.getLast (fun c => z (by rw [c]; rfl)), (List.dropLast_concat_getLast _).symm⟩
  have el : ps.length = qs.length + 1 := by rw [e]; simp
  have es : nI ps.length - 1 = nI qs.length := by rw [el]; exact nI_sub1 _
  rw [es]
  have f1 : Fr' h (sI h m 45 (nI qs.length)) (fun c => c = m) := Fr'.sI rfl
  refine m_movesAllL (h := sI h m 45 (nI qs.length)) (by omega) m qs.length (by omega) (HM.fr f1) (fun h2 c => ?_)
  obtain ⟨g1, g2, g3, g4, g5, g6, g7⟩ := c
  have f2 : Fr' h h2 (fun b => b = m ∨ b = m + 1 ∨ b = m + 2 ∨ b = m + 3 ∨ b = m + 4 ∨ b = m + 5 ∨ b = m + 6) := (f1.mono (fun c z => Or.inl z)).trans g1
  have HP : PastIs (hI h (m + 33)) qs.length nr nw N := H.2.1.2.2.2.2.2.2.2.1 qs.length N (by rw [e, List.getElem?_append_right (Nat.le_refl _)]; simp)
  obtain ⟨p0, p1, p2⟩ := HP
  have e33 : ∀ j, hI (sI h m 45 (nI qs.length)) (m + 33) j = hI h (m + 33) j := fun j => by rw [hI_sI, if_neg (by omega)]
  have e1 : ∀ j, hI (sI h m 45 (nI qs.length)) (m + 1) j = hI h (m + 1) j := fun j => by rw [hI_sI, if_neg (by omega)]
  have em : ∀ j, j ≠ 45 → j ≠ 46 → j ≠ 47 → hI h2 m j = hI h m j := fun j a b c => by rw [g4 j b c, hI_sI, if_pos rfl, if_neg a]
  have e45 : hI h2 m 45 = nI qs.length := by rw [g4 45 (by decide) (by decide), hI_sI, if_pos rfl, if_pos rfl]
  have EM : eqM nr nw (rM h2 m) N := by
    have b1 := H.2.1.1.1
    have b2 := H.2.1.1.2.1
    refine ⟨?_, fun j hj => ?_, fun j hj => ?_⟩
    · show hI h2 (m + 1) 3 = N 0 0
      rw [g6 (by decide), e33, p0]
    · have := p1 j hj
      rw [← this.1, ← this.2.1, ← this.2.2]
      refine ⟨?_, ?_, ?_⟩
      · show hI h2 (m + 4) j = _
        rw [g7 4 (by decide) j (by simp only [lnR]; omega) (by decide), e33]; rfl
      · show hI h2 (m + 2) j = _
        rw [g7 2 (by decide) j (by simp only [lnR]; omega) (by decide), e33]; rfl
      · show hI h2 (m + 3) j = _
        rw [g7 3 (by decide) j (by simp only [lnR]; omega) (by decide), e33]; rfl
    · have := p2 j hj
      rw [← this.1, ← this.2]
      refine ⟨?_, ?_⟩
      · show hI h2 (m + 5) j = _
        rw [g7 5 (by decide) j (by simp only [lnR]; omega) (by decide), e33]; rfl
      · show hI h2 (m + 6) j = _
        rw [g7 6 (by decide) j (by simp only [lnR]; omega) (by decide), e33]; rfl
  have HN : MNo h2 m (nr, nw, A, fo, x, N, qs, ns) := H.2.1.mom f2 (fun c z => by omega) (fun j hj => by rw [g5 j hj, e1]) e45 (by omega) (fun i P hP => by rw [e, List.getElem?_append_left (getq_lt hP)]; exact hP) EM
  have HR := H.up f2 (fun c z => by omega) (fun j hj => em j (by omega) (by omega) (by omega)) HN
  have f3 : Fr' h h2 (MZ m) := f2.mono (fun c z => by unfold MZ; omega)
  simp only [rV_none, rt_i, rt_b0, rt_b1, rt_v, rt_l, rt_o, rt_a, rV_none, rI_some, rL_some, rR_some, rT_some, rt_bI, hIf_sL, hIf_sR, hS_sI, hS_sL, hS_sR, hS_cpI, hR_sI, hR_sL, hR_cpI, hL_sI, hL_sR, hL_cpI, hI_sL, hI_sR, hN_sI, hN_sL, hN_sR, hN_cpI, hU_sI, hU_sL, hU_sR, hU_cpI, tn0, tn1, tn2, tn3, tn4, tn5, tn6, tn7, tn8, tn9, tn10, tn11, tn12, tn13, tn14, tn15, tn16, tn17, tn18, tn19, tn20, tn21, tn22, tn23, tn24, tn25, tn26, tn27, tn28, tn29, tn30, tn31, tn32, tn33, tn34, tn35, tn36, tn37, tn38, tn39, tn40, tn41, tn42, tn43, tn44, tn45, tn46, tn47, tn48, tn49, tn50, tn51, tn52, tn53, tn54, tn55, tn56, tn57, tn58, tn59, tn60, lH_eq, true_and, and_true, f2.1, mdq_0 HM, e45]
  exact ⟨f3.2.2.1, f3.2.2.2.1, k1 N qs e h2 f3 HR⟩
theorem MNo.notes {h h' : AH} {m nr nw : Nat} {A M : PC} {fo x : Int32} {ps : List PC} {ns ns' : List (Nat × Nat × Int32)} {S : Nat → Prop} (H : MNo h m (nr, nw, A, fo, x, M, ps, ns)) (f : Fr' h h' S) (hs : ∀ c, S c → c = m + 1 ∨ (m + 9 ≤ c ∧ c ≤ m + 11)) (e1 : ∀ j, j ≠ 4 → hI h' (m + 1) j = hI h (m + 1) j) (e4 : hI h' (m + 1) 4 = nI ns'.length) (hl : ns'.length ≤ 10) (hn : ∀ (k : Nat) (q : Nat × Nat × Int32), ns'[k]? = some q → hI h' (m + 9) k = nI q.1 ∧ hI h' (m + 10) k = nI q.2.1 ∧ hI h' (m + 11) k = q.2.2) : MNo h' m (nr, nw, A, fo, x, M, ps, ns') := by
  obtain ⟨⟨b1, b2, b3, b4⟩, ⟨s0, s1, s2, s3, s4, s5, s6⟩, h1, h2, h3, h4, h5, h6, h7⟩ := H
  have g : ∀ r, r ≠ 1 → (r < 9 ∨ 11 < r) → refP h' m r = refP h m r := fun r hr hr2 => by
    funext j
    unfold refP
    split
    · exact f.2.2.2.2.1 m (fun z => by have := hs _ z; omega) 45
    · exact f.2.2.2.2.1 _ (fun z => by have := hs _ z; omega) j
  refine ⟨⟨b1, b2, b3, hl⟩, ⟨(e1 0 (by decide)).trans s0, (e1 1 (by decide)).trans s1, (e1 2 (by decide)).trans s2, (e1 3 (by decide)).trans s3, e4, (e1 5 (by decide)).trans s5, (e1 6 (by decide)).trans s6⟩, fun j hj => ?_, fun j hj => ?_, fun j hj => ?_, fun j hj => ?_, ?_, fun k N hk => ?_, hn⟩
  · rw [g 4 (by decide) (by decide), g 2 (by decide) (by decide), g 3 (by decide) (by decide)]; exact h1 j hj
  · rw [g 5 (by decide) (by decide), g 6 (by decide) (by decide)]; exact h2 j hj
  · rw [g 12 (by decide) (by decide), g 13 (by decide) (by decide)]; exact h3 j hj
  · rw [g 14 (by decide) (by decide), g 7 (by decide) (by decide), g 8 (by decide) (by decide)]; exact h4 j hj
  · rw [g 34 (by decide) (by decide)]; exact h5
  · rw [g 33 (by decide) (by decide)]; exact h6 k N hk
def oNote (nr nw : Nat) (ns : List (Nat × Nat × Int32)) (n w q : Int32) : Int32 × List (Nat × Nat × Int32) := if n = -1 then (0, []) else if (0 ≤ n ∧ n ≤ 60) ∧ (0 ≤ w ∧ w < nI nw) ∧ (q = -1 ∨ (0 ≤ q ∧ q < nI nr)) ∧ ns.length ≠ 10 then (nI (ns.length + 1), ns ++ [(n.toNatClampNeg, w.toNatClampNeg, q)]) else (-2, ns)
theorem m_note {d : Nat} {h : AH} {Q : Option Value → AH → Prop} (hd : 7 ≤ d) (m nr nw : Nat) (A M : PC) (fo x : Int32) (ps : List PC) (ns : List (Nat × Nat × Int32)) (cls : List (List (List (Nat × Nat) × List (Nat × Nat)))) (tp : List Int32) (im : Nat → Option TW) (n w q : Int32) (H : RW h m ((nr, nw, A, fo, x, M, ps, ns), cls, tp, im)) (k : ∀ h', Fr' h h' (MZ m) → RW h' m ((nr, nw, A, fo, x, M, ps, (oNote nr nw ns n w q).2), cls, tp, im) → Q (some (.int (oNote nr nw ns n w q).1)) h') : Calls d nX12_note [.ref m, .int n, .int w, .int q] h (hN h) (hU h) Q := by
  obtain ⟨e, rfl⟩ : ∃ e, d = e + 1 := ⟨d - 1, by omega⟩
  have HM := H.mod
  have HH := H.2.1.hil
  have hr5 := H.2.1.1.1
  have hw6 := H.2.1.1.2.1
  have hl := H.2.1.1.2.2.2
  have s4 : hI h (m + 1) 4 = nI ns.length := H.2.1.2.1.2.2.2.2.1
  have h7 := H.2.1.2.2.2.2.2.2.2.2
  have c10 : (nI ns.length = 10) = (ns.length = 10) := nI_eq_iff (b := 10) (by omega) (by decide)
  -- the note is laid down
  have fin : n ≠ -1 → (0 ≤ n ∧ n ≤ 60) → (0 ≤ w ∧ w < nI nw) → (q = -1 ∨ (0 ≤ q ∧ q < nI nr)) → ns.length ≠ 10 → hN h = hN h ∧ hU h = hU h ∧ Q (some (.int (nI (ns.length + 1)))) (sI (sI (sI (sI h (m + 9) ns.length n) (m + 10) ns.length w) (m + 11) ns.length q) (m + 1) 4 (nI (ns.length + 1))) := fun z0 z1 z2 z3 z4 => by
    have e : oNote nr nw ns n w q = (nI (ns.length + 1), ns ++ [(n.toNatClampNeg, w.toNatClampNeg, q)]) := by unfold oNote; rw [if_neg z0, if_pos ⟨z1, z2, z3, z4⟩]
    rw [e] at k
    obtain ⟨n, hn, rfl⟩ := rg_of (n := 60) rfl (by decide) z1
    obtain ⟨w, hw, rfl⟩ := rn_of (by omega) z2
    rw [nI_clamp (by omega), nI_clamp (by omega)] at k
    have f : Fr' h (sI (sI (sI (sI h (m + 9) ns.length (nI n)) (m + 10) ns.length (nI w)) (m + 11) ns.length q) (m + 1) 4 (nI (ns.length + 1))) (fun c => c = m + 1 ∨ (m + 9 ≤ c ∧ c ≤ m + 11)) := (((Fr'.sI (S := fun c => c = m + 1 ∨ (m + 9 ≤ c ∧ c ≤ m + 11)) (by omega)).trans (Fr'.sI (by omega))).trans (Fr'.sI (by omega))).trans (Fr'.sI (by omega))
    refine ⟨rfl, rfl, k _ (f.mono (fun c z => by unfold MZ; omega)) (H.up f (fun c z => by omega) (fun j _ => f.2.2.2.2.1 m (by omega) j) (H.2.1.notes f (fun c z => z) (fun j hj => ?_) ?_ (by simp; omega) (fun i p hp => ?_)))⟩
    · rw [hI_sI, if_pos rfl, if_neg hj, hI_sI, if_neg (by omega), hI_sI, if_neg (by omega), hI_sI, if_neg (by omega)]
    · rw [hI_sI, if_pos rfl, if_pos rfl]; simp
    · simp only [hI_sI, Nat.add_left_cancel_iff, Nat.reduceEqDiff, if_false, if_true]
      by_cases c : i < ns.length
      · rw [List.getElem?_append_left c] at hp
        simp only [if_neg (show ¬ i = ns.length by omega)]
        exact h7 i p hp
      · have := getq_lt hp
        simp at this
        have ei : i = ns.length := by omega
        subst ei
        rw [List.getElem?_append_right (Nat.le_refl _)] at hp
        simp at hp
        subst hp
        simp only [if_true]
        exact ⟨trivial, trivial, trivial⟩
  have bad : n ≠ -1 → ¬ ((0 ≤ n ∧ n ≤ 60) ∧ (0 ≤ w ∧ w < nI nw) ∧ (q = -1 ∨ (0 ≤ q ∧ q < nI nr)) ∧ ns.length ≠ 10) → Q (some (.int (-2))) h := fun z0 z => by
    have e : oNote nr nw ns n w q = (-2, ns) := by unfold oNote; rw [if_neg z0, if_neg z]
    rw [e] at k
    exact k h (Fr'.refl _ _) H
  refine wX12_note (by omega) m n w q ?_
  simp only [rt_i, rt_b0, rt_b1, rt_v, rt_l, rt_o, rt_a, rV_none, rI_some, rL_some, rR_some, rT_some, rt_bI, hIf_sL, hIf_sR, hS_sI, hS_sL, hS_sR, hS_cpI, hR_sI, hR_sL, hR_cpI, hL_sI, hL_sR, hL_cpI, hI_sL, hI_sR, hN_sI, hN_sL, hN_sR, hN_cpI, hU_sI, hU_sL, hU_sR, hU_cpI, tn0, tn1, tn2, tn3, tn4, tn5, tn6, tn7, tn8, tn9, tn10, tn11, tn12, tn13, tn14, tn15, tn16, tn17, tn18, tn19, tn20, tn21, tn22, tn23, tn24, tn25, tn26, tn27, tn28, tn29, tn30, tn31, tn32, tn33, tn34, tn35, tn36, tn37, tn38, tn39, tn40, tn41, tn42, tn43, tn44, tn45, tn46, tn47, tn48, tn49, tn50, tn51, tn52, tn53, tn54, tn55, tn56, tn57, tn58, tn59, tn60, lH_eq, true_and, and_true, mdq_0 HM, mdq_1 HM, mds_1 HM, vl7_0, vl7_1, vl7_2, vl7_3, vl7_4, vl7_5, vl7_6, s4]
  refine ⟨fun z0 => ?_, fun z0 => ?_⟩
  · refine m_in32 (by omega) n 0 60 rfl rfl rfl ?_
    simp only [rI_some, bI0, mdq_0 HM, true_and]
    refine ⟨fun z => bad z0 (fun y => z y.1), fun z => ?_⟩
    have z := Decidable.not_not.mp z
    refine m_isWare (d := e) (h := h) (by omega) m nw w HM HH.1.2.1 hw6 ?_
    simp only [rI_some, bI0, rt_i, rt_b0, rt_b1, rt_v, rt_l, rt_o, rt_a, rV_none, rI_some, rL_some, rR_some, rT_some, rt_bI, hIf_sL, hIf_sR, hS_sI, hS_sL, hS_sR, hS_cpI, hR_sI, hR_sL, hR_cpI, hL_sI, hL_sR, hL_cpI, hI_sL, hI_sR, hN_sI, hN_sL, hN_sR, hN_cpI, hU_sI, hU_sL, hU_sR, hU_cpI, tn0, tn1, tn2, tn3, tn4, tn5, tn6, tn7, tn8, tn9, tn10, tn11, tn12, tn13, tn14, tn15, tn16, tn17, tn18, tn19, tn20, tn21, tn22, tn23, tn24, tn25, tn26, tn27, tn28, tn29, tn30, tn31, tn32, tn33, tn34, tn35, tn36, tn37, tn38, tn39, tn40, tn41, tn42, tn43, tn44, tn45, tn46, tn47, tn48, tn49, tn50, tn51, tn52, tn53, tn54, tn55, tn56, tn57, tn58, tn59, tn60, lH_eq, true_and, and_true, mdq_0 HM, mdq_1 HM, mds_1 HM, mdq_9 HM, mds_9 HM, mdq_10 HM, mds_10 HM, mdq_11 HM, mds_11 HM, vl7_0, vl7_1, vl7_2, vl7_3, vl7_4, vl7_5, vl7_6, c10, nI_clamp (show ns.length < 2 ^ 31 by omega), hI_sI, Nat.add_left_cancel_iff, Nat.reduceEqDiff, if_false, s4, nI_1]
    refine ⟨fun y => bad z0 (fun x => y x.2.1), fun y => ⟨fun v => ⟨fun u => ?_, fun u => bad z0 (fun x => x.2.2.2 u)⟩, fun v => ?_⟩⟩
    · have y := Decidable.not_not.mp y
      have hi : ns.length < 10 := by omega
      have := fin z0 z y (Or.inl v) u
      simp only [vp_in_nI hi (show 10 < 2 ^ 31 by decide), nI_clamp (show ns.length < 2 ^ 31 by omega), true_and]
      exact this.2.2
    · have y := Decidable.not_not.mp y
      refine m_isRunner (by omega) m nr q HM HH.1.1 hr5 ?_
      simp only [rI_some, bI0, rt_i, rt_b0, rt_b1, rt_v, rt_l, rt_o, rt_a, rV_none, rI_some, rL_some, rR_some, rT_some, rt_bI, hIf_sL, hIf_sR, hS_sI, hS_sL, hS_sR, hS_cpI, hR_sI, hR_sL, hR_cpI, hL_sI, hL_sR, hL_cpI, hI_sL, hI_sR, hN_sI, hN_sL, hN_sR, hN_cpI, hU_sI, hU_sL, hU_sR, hU_cpI, tn0, tn1, tn2, tn3, tn4, tn5, tn6, tn7, tn8, tn9, tn10, tn11, tn12, tn13, tn14, tn15, tn16, tn17, tn18, tn19, tn20, tn21, tn22, tn23, tn24, tn25, tn26, tn27, tn28, tn29, tn30, tn31, tn32, tn33, tn34, tn35, tn36, tn37, tn38, tn39, tn40, tn41, tn42, tn43, tn44, tn45, tn46, tn47, tn48, tn49, tn50, tn51, tn52, tn53, tn54, tn55, tn56, tn57, tn58, tn59, tn60, lH_eq, true_and, and_true, mdq_0 HM, mdq_1 HM, mds_1 HM, mdq_9 HM, mds_9 HM, mdq_10 HM, mds_10 HM, mdq_11 HM, mds_11 HM, vl7_0, vl7_1, vl7_2, vl7_3, vl7_4, vl7_5, vl7_6, c10, nI_clamp (show ns.length < 2 ^ 31 by omega), hI_sI, Nat.add_left_cancel_iff, Nat.reduceEqDiff, if_false, s4, nI_1]
      refine ⟨fun u => bad z0 (fun x => x.2.2.1.elim v u), fun u => ⟨fun t => ?_, fun t => bad z0 (fun x => x.2.2.2 t)⟩⟩
      have u := Decidable.not_not.mp u
      have hi : ns.length < 10 := by omega
      have := fin z0 z y (Or.inr u) t
      simp only [vp_in_nI hi (show 10 < 2 ^ 31 by decide), nI_clamp (show ns.length < 2 ^ 31 by omega), true_and]
      exact this.2.2
  · have e : oNote nr nw ns n w q = (0, []) := by unfold oNote; rw [if_pos z0]
    rw [e] at k
    have f : Fr' h (sI h (m + 1) 4 0) (fun c => c = m + 1 ∨ (m + 9 ≤ c ∧ c ≤ m + 11)) := Fr'.sI (Or.inl rfl)
    refine k _ (f.mono (fun c z => by unfold MZ; omega)) (H.up f (fun c z => by omega) (fun j _ => f.2.2.2.2.1 m (by omega) j) (H.2.1.notes f (fun c z => z) (fun j hj => ?_) ?_ (by simp) (fun i p hp => by simp at hp)))
    · rw [hI_sI, if_pos rfl, if_neg hj]
    · rw [hI_sI, if_pos rfl, if_pos rfl]; rfl
