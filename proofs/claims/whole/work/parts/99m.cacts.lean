/-! the class's acts -/
def rmC (p : Nat → Nat) (n : Nat) : Nat := if n < 20 ∧ p 0 ≤ n then 6 else 0
def rmV (p : Nat → Nat) (n : Nat) : Nat := if n < 20 ∧ p 0 ≤ n then 33 else 0
def rmP (p : Nat → Nat) (n : Nat) : Nat → Nat := upN p 0 (max (p 0) (min (n + 1) 20))
def acC (p : Nat → Nat) (n : Nat) (o : Option PC) : Nat := match o with
  | none => 0
  | some _ => rmC p n
def acV (p : Nat → Nat) (n : Nat) (o : Option PC) : Nat := match o with
  | none => 0
  | some _ => rmV p n
def acP (p : Nat → Nat) (n : Nat) (o : Option PC) : Nat → Nat := match o with
  | none => p
  | some _ => rmP p n
theorem psR_ln2 (M : PC) (ps : List PC) : (psR M ps).length = if ps.length = 20 then 20 else ps.length + 1 := by
  unfold psR
  split
  · rename_i e
    simp [e]
  · simp
theorem c_rem {pz : PZT} {d : Nat} {h : AH} {Q : Option Value → AH → Prop} (hd : 7 ≤ d) (x nr nw : Nat) (A M : PC) (fo y : Int32) (ps : List PC) (ns : List (Nat × Nat × Int32)) (cls : List (List (List (Nat × Nat) × List (Nat × Nat)))) (tp : List Int32) (im : Nat → Option TW) (H : CW pz h x ((nr, nw, A, fo, y, M, ps, ns), cls, tp, im)) (k : ∀ h', hN h' = hN h + rmC pz.1 ps.length → hU h' = hU h + rmV pz.1 ps.length → CW (rmP pz.1 ps.length, pz.2) h' x ((nr, nw, A, fo, y, M, psR M ps, ns), cls, tp, im) → hR h' (x + 8) 0 = hR h (x + 8) 0 → Q none h') : Calls d nX9_remember [.ref (x + 8)] h (hN h + rmC pz.1 ps.length) (hU h + rmV pz.1 ps.length) Q := by
  have HS := H.ts
  have q0 := HS.2.2.1 0 _ (by omega) rfl
  have HT : TownIs h (x + 8) (nr, nw, A, fo, y, M, ps, ns) := q0.2.1
  have HD : dyn h x (x + 8) (nr, nw, A, fo, y, M, ps, ns) := q0.2.2.1
  have HP : nlT h (x + 8) (pz.1 0) := q0.2.2.2
  have hl : ps.length ≤ 20 := HT.2.1.2.2.1
  have cond : (ps.length < 20 ∧ hR h (x + 8 + 7) ps.length = 0) = (ps.length < 20 ∧ pz.1 0 ≤ ps.length) := by
    apply propext
    constructor
    · rintro ⟨h1, h2⟩
      refine ⟨h1, ?_⟩
      have := HP.2 ps.length h1
      by_cases c : ps.length < pz.1 0
      · exact absurd h2 (this.mpr c)
      · omega
    · rintro ⟨h1, h2⟩
      refine ⟨h1, ?_⟩
      have := HP.2 ps.length h1
      by_cases c : hR h (x + 8 + 7) ps.length = 0
      · exact c
      · have := this.mp c
        omega
  have eC : rmE h (x + 8) ps.length = rmC pz.1 ps.length := by unfold rmE rmC; simp only [cond]
  have eV : rmU h (x + 8) ps.length = rmV pz.1 ps.length := by unfold rmU rmV; simp only [cond]
  rw [← eC, ← eV] at k ⊢
  refine sp_remember hd (x + 8) nr nw A fo y M ps ns H.1.1.1 HT (fun h' f n1 n2 bn g7 r0 r1 HT' => ?_)
  refine k h' n1 n2 ?_ (r0 0)
  refine CW.mod (k0 := 0) (T := (nr, nw, A, fo, y, M, ps, ns)) (T' := (nr, nw, A, fo, y, M, psR M ps, ns)) H (by omega) rfl (f.mono (fun c _ z => ownS_blk z)) bn HT' ?_ ?_ rfl (fun k hk => ?_) rfl rfl
  · show hR h' (x + 8) 0 ≠ 0 → x + 145 ≤ hR h' (x + 8) 0 ∧ 0 < A 0 0
    rw [r0]
    exact HD.1
  · refine ⟨by have := HP.1; omega, fun i hi => ?_⟩
    have hpl := psR_ln2 M ps
    show hR h' (x + 8 + 7) i ≠ 0 ↔ i < max (pz.1 0) (min (ps.length + 1) 20)
    by_cases c : i < (psR M ps).length
    · have z := (HT'.2.2.2.2.2.2.1 i _ (List.getElem?_eq_getElem c)).1
      refine ⟨fun _ => ?_, fun _ => z⟩
      split at hpl <;> omega
    · have hn : ps.length < i := by split at hpl <;> omega
      rw [g7 i hn hi]
      refine (HP.2 i hi).trans ⟨fun z => by omega, fun z => by omega⟩
  · cases k with
    | zero => exact absurd rfl hk
    | succ s => rfl
theorem CW.mom {pz : PZT} {h h' : AH} {x nr nw : Nat} {A M M' : PC} {fo y : Int32} {ps : List PC} {ns : List (Nat × Nat × Int32)} {cls : List (List (List (Nat × Nat) × List (Nat × Nat)))} {tp : List Int32} {im : Nat → Option TW} {S : Nat → Prop} (H : CW pz h x ((nr, nw, A, fo, y, M, ps, ns), cls, tp, im)) (f : Fr' h h' S) (hs : ∀ c, S c → (x + 9 ≤ c ∧ c ≤ x + 14) ∨ (x + 22 ≤ c ∧ c ≤ x + 24)) (HM : MomIs h' (x + 8 + 1) nr nw M') : CW pz h' x ((nr, nw, A, fo, y, M', ps, ns), cls, tp, im) := by
  have HT : TownIs h (x + 8) (nr, nw, A, fo, y, M, ps, ns) := H.2.1.1
  obtain ⟨T0, ⟨b1, b2, b3, b4⟩, HH, ⟨i1, i2, i3, i4⟩, HM0, HB, h6, h7⟩ := H.2.1.1
  have g : ∀ c, (c ≤ x + 8 ∨ (x + 15 ≤ c ∧ c ≤ x + 18)) → ∀ j, hI h' c j = hI h c j := fun c hc j => f.2.2.2.2.1 c (fun z => by have := hs c z; omega) j
  refine H.town f (fun c z => by have := hs c z; omega) (HT.up H.2.1.2 f (fun c z => by have := hs c z; omega) (by rw [g _ (by omega)]; exact i1) (by rw [g _ (by omega)]; exact i2) (by rw [g _ (by omega)]; exact i3) (by rw [g _ (by omega)]; exact i4) b3 b4 HM (fun _ _ z => z) (fun k q hq => ?_)) rfl
  rw [g (x + 8 + 8) (by omega), g (x + 8 + 9) (by omega), g (x + 8 + 10) (by omega)]
  exact h7 k q hq
theorem MomIs.cell {h : AH} {a nr nw k r : Nat} {M : PC} {v : Int32} (H : MomIs h a nr nw M) (hk : k = 1 ∨ k = 2 ∨ k = 4) : MomIs (sI h (a + k) r v) a nr nw (setC M k r v) := by
  have f : Fr' h (sI h (a + k) r v) (fun c => c = a + k) := Fr'.sI rfl
  obtain ⟨h0, ⟨m0, m1, m2⟩, h3⟩ := H
  have m1a : ∀ j, j < nr → hI h (a + 1) j = M 1 j := fun j hj => (m1 j hj).1
  have m1b : ∀ j, j < nr → hI h (a + 2) j = M 2 j := fun j hj => (m1 j hj).2.1
  have m1c : ∀ j, j < nr → hI h (a + 3) j = M 3 j := fun j hj => (m1 j hj).2.2
  have m2a : ∀ j, j < nw → hI h (a + 4) j = M 4 j := fun j hj => (m2 j hj).1
  have m2b : ∀ j, j < nw → hI h (a + 5) j = M 5 j := fun j hj => (m2 j hj).2
  have m0 : hI h a 0 = M 0 0 := m0
  refine ⟨h0.fr f, ⟨?_, fun j hj => ⟨?_, ?_, ?_⟩, fun j hj => ⟨?_, ?_⟩⟩, fun j h1 h2 => ?_⟩
  all_goals simp only [pic, setC, hI_sI, Nat.add_zero]
  · rw [if_neg (by omega), if_neg (by omega)]; exact m0
  all_goals rcases hk with rfl | rfl | rfl
  all_goals simp only [Nat.add_left_cancel_iff, Nat.reduceEqDiff, if_false, if_true, false_and, true_and]
  all_goals first | exact m1a j hj | exact m1b j hj | exact m1c j hj | exact m2a j hj | exact m2b j hj | exact h3 j h1 h2 | skip
  all_goals (by_cases c : j = r <;> simp only [c, if_true, if_false] <;> first | rfl | exact m1a j hj | exact m1b j hj | exact m2a j hj | skip)
theorem c_fall {pz : PZT} {d : Nat} {h : AH} {Q : Option Value → AH → Prop} (hd : 8 ≤ d) (x nr nw : Nat) (A M : PC) (fo y : Int32) (ps : List PC) (ns : List (Nat × Nat × Int32)) (cls : List (List (List (Nat × Nat) × List (Nat × Nat)))) (tp : List Int32) (im : Nat → Option TW) (q : Int32) (H : CW pz h x ((nr, nw, A, fo, y, M, ps, ns), cls, tp, im)) (k : ∀ h', hN h' = hN h + acC pz.1 ps.length (oFall nr M q).2 → hU h' = hU h + acV pz.1 ps.length (oFall nr M q).2 → CW (acP pz.1 ps.length (oFall nr M q).2, pz.2) h' x (nxT (nr, nw, A, fo, y, M, ps, ns) (oFall nr M q).2, cls, tp, im) → Q (some (.int (oFall nr M q).1)) h') : Calls d nX11_fall [.ref x, .int q] h (hN h + acC pz.1 ps.length (oFall nr M q).2) (hU h + acV pz.1 ps.length (oFall nr M q).2) Q := by
  obtain ⟨e, rfl⟩ : ∃ e, d = e + 1 := ⟨d - 1, by omega⟩
  obtain ⟨s0, p4, T0, HH, HM, b1, b2⟩ := H.un
  have hm := HM.1
  generalize hE1 : hN h + acC pz.1 ps.length (oFall nr M q).2 = E1
  generalize hE2 : hU h + acV pz.1 ps.length (oFall nr M q).2 = E2
  have no : oFall nr M q = (-1000, none) → hN h = E1 ∧ hU h = E2 ∧ Q (some (.int (-1000))) h := fun e => by
    rw [e] at k hE1 hE2
    exact ⟨hE1, hE2, k h rfl rfl H⟩
  refine wX11_fall (by omega) (by omega) (by omega) x q ?_
  simp only [rt_i, rt_b0, rt_b1, rt_v, rt_l, rt_o, rt_a, rV_none, rI_some, rL_some, rR_some, rT_some, rt_bI, hIf_sL, hIf_sR, hS_sI, hS_sL, hS_sR, hS_cpI, hR_sI, hR_sL, hR_cpI, hL_sI, hL_sR, hL_cpI, hI_sL, hI_sR, hN_sI, hN_sL, hN_sR, hN_cpI, hU_sI, hU_sL, hU_sR, hU_cpI, tn0, tn1, tn2, tn3, tn4, tn5, tn6, tn7, tn8, tn9, tn10, tn11, tn12, tn13, tn14, tn15, tn16, tn17, tn18, tn19, tn20, tn21, tn22, tn23, tn24, tn25, tn26, tn27, tn28, tn29, tn30, tn31, tn32, tn33, tn34, tn35, tn36, tn37, tn38, tn39, tn40, tn41, tn42, tn43, tn44, tn45, tn46, tn47, tn48, tn49, tn50, tn51, tn52, tn53, tn54, tn55, tn56, tn57, tn58, tn59, tn60, lH_eq, true_and, and_true, s0, p4, twq_0 T0]
  refine sp_hasRunner (by omega) (x + 8) nr nw A q T0 HH ?_
  simp only [rI_some, bI0, rt_i, rt_b0, rt_b1, rt_v, rt_l, rt_o, rt_a, rV_none, rI_some, rL_some, rR_some, rT_some, rt_bI, hIf_sL, hIf_sR, hS_sI, hS_sL, hS_sR, hS_cpI, hR_sI, hR_sL, hR_cpI, hL_sI, hL_sR, hL_cpI, hI_sL, hI_sR, hN_sI, hN_sL, hN_sR, hN_cpI, hU_sI, hU_sL, hU_sR, hU_cpI, tn0, tn1, tn2, tn3, tn4, tn5, tn6, tn7, tn8, tn9, tn10, tn11, tn12, tn13, tn14, tn15, tn16, tn17, tn18, tn19, tn20, tn21, tn22, tn23, tn24, tn25, tn26, tn27, tn28, tn29, tn30, tn31, tn32, tn33, tn34, tn35, tn36, tn37, tn38, tn39, tn40, tn41, tn42, tn43, tn44, tn45, tn46, tn47, tn48, tn49, tn50, tn51, tn52, tn53, tn54, tn55, tn56, tn57, tn58, tn59, tn60, lH_eq, true_and, and_true]
  refine ⟨fun z => no (by unfold oFall; rw [if_neg (fun c => z c.1)]), fun z => ?_⟩
  have z := Decidable.not_not.mp z
  obtain ⟨r, hr, rfl⟩ := rn_of (by omega) z
  have e2 : hI h (x + 8 + 1 + 2) r = M 2 r := (HM.2.1.2.1 r hr).2.1
  simp only [s0, p4, twq_0 T0, twq_1 T0, moq_0 hm, moq_1 hm, moq_2 hm, moq_3 hm, moq_4 hm, moq_5 hm, moq_6 hm, moq_7 hm, moq_8 hm, moq_9 hm, moq_10 hm, vp_in_nI (show r < 5 by omega) (show 5 < 2 ^ 31 by omega), nI_clamp (show r < 2 ^ 31 by omega), e2, true_and]
  refine ⟨fun u => ?_, fun u => no (by unfold oFall; rw [nI_clamp (by omega), if_neg (fun c => c.2 u)])⟩
  have e : oFall nr M (nI r) = (M 2 r, some (setC M 2 r 0)) := by unfold oFall; rw [nI_clamp (by omega), if_pos ⟨z, u⟩]
  rw [e] at k hE1 hE2
  have hE1 : hN h + rmC pz.1 ps.length = E1 := hE1
  have hE2 : hU h + rmV pz.1 ps.length = E2 := hE2
  subst hE1 hE2
  refine ⟨_, _, Nat.le_refl _, Nat.le_refl _, ?_⟩
  refine c_rem (by omega) x nr nw A M fo y ps ns cls tp im H (fun h1 n1 n2 C1 _ => ?_)
  obtain ⟨s01, p41, T01, HH1, HM1, -, -⟩ := C1.un
  have hm1 := HM1.1
  have e3 : hI h1 (x + 8 + 1 + 2) r = M 2 r := (HM1.2.1.2.1 r hr).2.1
  simp only [rV_none, rt_i, rt_b0, rt_b1, rt_v, rt_l, rt_o, rt_a, rV_none, rI_some, rL_some, rR_some, rT_some, rt_bI, hIf_sL, hIf_sR, hS_sI, hS_sL, hS_sR, hS_cpI, hR_sI, hR_sL, hR_cpI, hL_sI, hL_sR, hL_cpI, hI_sL, hI_sR, hN_sI, hN_sL, hN_sR, hN_cpI, hU_sI, hU_sL, hU_sR, hU_cpI, tn0, tn1, tn2, tn3, tn4, tn5, tn6, tn7, tn8, tn9, tn10, tn11, tn12, tn13, tn14, tn15, tn16, tn17, tn18, tn19, tn20, tn21, tn22, tn23, tn24, tn25, tn26, tn27, tn28, tn29, tn30, tn31, tn32, tn33, tn34, tn35, tn36, tn37, tn38, tn39, tn40, tn41, tn42, tn43, tn44, tn45, tn46, tn47, tn48, tn49, tn50, tn51, tn52, tn53, tn54, tn55, tn56, tn57, tn58, tn59, tn60, lH_eq, true_and, and_true, s01, p41, twq_0 T01, twq_1 T01, moq_0 hm1, moq_1 hm1, moq_2 hm1, moq_3 hm1, moq_4 hm1, moq_5 hm1, moq_6 hm1, moq_7 hm1, moq_8 hm1, moq_9 hm1, moq_10 hm1, vp_in_nI (show r < 5 by omega) (show 5 < 2 ^ 31 by omega), nI_clamp (show r < 2 ^ 31 by omega), e3]
  have f : Fr' h1 (sI h1 (x + 8 + 1 + 2) r 0) (fun c => c = x + 8 + 1 + 2) := Fr'.sI rfl
  exact ⟨n1, n2, k _ n1 n2 (C1.mom f (fun c z => by omega) (HM1.cell (k := 2) (Or.inr (Or.inl rfl))))⟩
theorem c_train {pz : PZT} {d : Nat} {h : AH} {Q : Option Value → AH → Prop} (hd : 8 ≤ d) (x nr nw : Nat) (A M : PC) (fo y : Int32) (ps : List PC) (ns : List (Nat × Nat × Int32)) (cls : List (List (List (Nat × Nat) × List (Nat × Nat)))) (tp : List Int32) (im : Nat → Option TW) (q v : Int32) (H : CW pz h x ((nr, nw, A, fo, y, M, ps, ns), cls, tp, im)) (k : ∀ h', hN h' = hN h + acC pz.1 ps.length (oTrain nr M q v).2 → hU h' = hU h + acV pz.1 ps.length (oTrain nr M q v).2 → CW (acP pz.1 ps.length (oTrain nr M q v).2, pz.2) h' x (nxT (nr, nw, A, fo, y, M, ps, ns) (oTrain nr M q v).2, cls, tp, im) → Q (some (.int (oTrain nr M q v).1)) h') : Calls d nX11_train [.ref x, .int q, .int v] h (hN h + acC pz.1 ps.length (oTrain nr M q v).2) (hU h + acV pz.1 ps.length (oTrain nr M q v).2) Q := by
  obtain ⟨e, rfl⟩ : ∃ e, d = e + 1 := ⟨d - 1, by omega⟩
  obtain ⟨s0, p4, T0, HH, HM, b1, b2⟩ := H.un
  have hm := HM.1
  generalize hE1 : hN h + acC pz.1 ps.length (oTrain nr M q v).2 = E1
  generalize hE2 : hU h + acV pz.1 ps.length (oTrain nr M q v).2 = E2
  have no : oTrain nr M q v = (-1, none) → hN h = E1 ∧ hU h = E2 ∧ Q (some (.int (-1))) h := fun e => by
    rw [e] at k hE1 hE2
    exact ⟨hE1, hE2, k h rfl rfl H⟩
  refine wX11_train (by omega) (by omega) (by omega) x q v ?_
  simp only [rt_i, rt_b0, rt_b1, rt_v, rt_l, rt_o, rt_a, rV_none, rI_some, rL_some, rR_some, rT_some, rt_bI, hIf_sL, hIf_sR, hS_sI, hS_sL, hS_sR, hS_cpI, hR_sI, hR_sL, hR_cpI, hL_sI, hL_sR, hL_cpI, hI_sL, hI_sR, hN_sI, hN_sL, hN_sR, hN_cpI, hU_sI, hU_sL, hU_sR, hU_cpI, tn0, tn1, tn2, tn3, tn4, tn5, tn6, tn7, tn8, tn9, tn10, tn11, tn12, tn13, tn14, tn15, tn16, tn17, tn18, tn19, tn20, tn21, tn22, tn23, tn24, tn25, tn26, tn27, tn28, tn29, tn30, tn31, tn32, tn33, tn34, tn35, tn36, tn37, tn38, tn39, tn40, tn41, tn42, tn43, tn44, tn45, tn46, tn47, tn48, tn49, tn50, tn51, tn52, tn53, tn54, tn55, tn56, tn57, tn58, tn59, tn60, lH_eq, true_and, and_true, s0, p4, twq_0 T0]
  refine sp_hasRunner (by omega) (x + 8) nr nw A q T0 HH ?_
  simp only [rI_some, bI0, rt_i, rt_b0, rt_b1, rt_v, rt_l, rt_o, rt_a, rV_none, rI_some, rL_some, rR_some, rT_some, rt_bI, hIf_sL, hIf_sR, hS_sI, hS_sL, hS_sR, hS_cpI, hR_sI, hR_sL, hR_cpI, hL_sI, hL_sR, hL_cpI, hI_sL, hI_sR, hN_sI, hN_sL, hN_sR, hN_cpI, hU_sI, hU_sL, hU_sR, hU_cpI, tn0, tn1, tn2, tn3, tn4, tn5, tn6, tn7, tn8, tn9, tn10, tn11, tn12, tn13, tn14, tn15, tn16, tn17, tn18, tn19, tn20, tn21, tn22, tn23, tn24, tn25, tn26, tn27, tn28, tn29, tn30, tn31, tn32, tn33, tn34, tn35, tn36, tn37, tn38, tn39, tn40, tn41, tn42, tn43, tn44, tn45, tn46, tn47, tn48, tn49, tn50, tn51, tn52, tn53, tn54, tn55, tn56, tn57, tn58, tn59, tn60, lH_eq, true_and, and_true]
  refine ⟨fun z => no (by unfold oTrain; rw [if_neg (fun c => z c.1)]), fun z => ?_⟩
  have z := Decidable.not_not.mp z
  refine sp_isWithin (by omega) v 1 20 ?_
  simp only [rI_some, bI0, rt_i, rt_b0, rt_b1, rt_v, rt_l, rt_o, rt_a, rV_none, rI_some, rL_some, rR_some, rT_some, rt_bI, hIf_sL, hIf_sR, hS_sI, hS_sL, hS_sR, hS_cpI, hR_sI, hR_sL, hR_cpI, hL_sI, hL_sR, hL_cpI, hI_sL, hI_sR, hN_sI, hN_sL, hN_sR, hN_cpI, hU_sI, hU_sL, hU_sR, hU_cpI, tn0, tn1, tn2, tn3, tn4, tn5, tn6, tn7, tn8, tn9, tn10, tn11, tn12, tn13, tn14, tn15, tn16, tn17, tn18, tn19, tn20, tn21, tn22, tn23, tn24, tn25, tn26, tn27, tn28, tn29, tn30, tn31, tn32, tn33, tn34, tn35, tn36, tn37, tn38, tn39, tn40, tn41, tn42, tn43, tn44, tn45, tn46, tn47, tn48, tn49, tn50, tn51, tn52, tn53, tn54, tn55, tn56, tn57, tn58, tn59, tn60, lH_eq, true_and, and_true]
  refine ⟨fun w => no (by unfold oTrain; rw [if_neg (fun c => w c.2.1)]), fun w => ?_⟩
  have w := Decidable.not_not.mp w
  obtain ⟨r, hr, rfl⟩ := rn_of (by omega) z
  have e2 : hI h (x + 8 + 1 + 1) r = M 1 r := (HM.2.1.2.1 r hr).1
  simp only [s0, p4, twq_0 T0, twq_1 T0, moq_0 hm, moq_1 hm, moq_2 hm, moq_3 hm, moq_4 hm, moq_5 hm, moq_6 hm, moq_7 hm, moq_8 hm, moq_9 hm, moq_10 hm, vp_in_nI (show r < 5 by omega) (show 5 < 2 ^ 31 by omega), nI_clamp (show r < 2 ^ 31 by omega), e2, true_and]
  refine ⟨fun u => ?_, fun u => no (by unfold oTrain; rw [nI_clamp (by omega), if_neg (fun c => c.2.2 u)])⟩
  have e : oTrain nr M (nI r) v = (M 1 r, some (setC M 1 r v)) := by unfold oTrain; rw [nI_clamp (by omega), if_pos ⟨z, w, u⟩]
  rw [e] at k hE1 hE2
  have hE1 : hN h + rmC pz.1 ps.length = E1 := hE1
  have hE2 : hU h + rmV pz.1 ps.length = E2 := hE2
  subst hE1 hE2
  refine ⟨_, _, Nat.le_refl _, Nat.le_refl _, ?_⟩
  refine c_rem (by omega) x nr nw A M fo y ps ns cls tp im H (fun h1 n1 n2 C1 _ => ?_)
  obtain ⟨s01, p41, T01, HH1, HM1, -, -⟩ := C1.un
  have hm1 := HM1.1
  have e3 : hI h1 (x + 8 + 1 + 1) r = M 1 r := (HM1.2.1.2.1 r hr).1
  simp only [rV_none, rt_i, rt_b0, rt_b1, rt_v, rt_l, rt_o, rt_a, rV_none, rI_some, rL_some, rR_some, rT_some, rt_bI, hIf_sL, hIf_sR, hS_sI, hS_sL, hS_sR, hS_cpI, hR_sI, hR_sL, hR_cpI, hL_sI, hL_sR, hL_cpI, hI_sL, hI_sR, hN_sI, hN_sL, hN_sR, hN_cpI, hU_sI, hU_sL, hU_sR, hU_cpI, tn0, tn1, tn2, tn3, tn4, tn5, tn6, tn7, tn8, tn9, tn10, tn11, tn12, tn13, tn14, tn15, tn16, tn17, tn18, tn19, tn20, tn21, tn22, tn23, tn24, tn25, tn26, tn27, tn28, tn29, tn30, tn31, tn32, tn33, tn34, tn35, tn36, tn37, tn38, tn39, tn40, tn41, tn42, tn43, tn44, tn45, tn46, tn47, tn48, tn49, tn50, tn51, tn52, tn53, tn54, tn55, tn56, tn57, tn58, tn59, tn60, lH_eq, true_and, and_true, s01, p41, twq_0 T01, twq_1 T01, moq_0 hm1, moq_1 hm1, moq_2 hm1, moq_3 hm1, moq_4 hm1, moq_5 hm1, moq_6 hm1, moq_7 hm1, moq_8 hm1, moq_9 hm1, moq_10 hm1, vp_in_nI (show r < 5 by omega) (show 5 < 2 ^ 31 by omega), nI_clamp (show r < 2 ^ 31 by omega), e3]
  have f : Fr' h1 (sI h1 (x + 8 + 1 + 1) r v) (fun c => c = x + 8 + 1 + 1) := Fr'.sI rfl
  exact ⟨n1, n2, k _ n1 n2 (C1.mom f (fun c z => by omega) (HM1.cell (k := 1) (Or.inl rfl)))⟩
theorem c_shift {pz : PZT} {d : Nat} {h : AH} {Q : Option Value → AH → Prop} (hd : 8 ≤ d) (x nr nw : Nat) (A M : PC) (fo y : Int32) (ps : List PC) (ns : List (Nat × Nat × Int32)) (cls : List (List (List (Nat × Nat) × List (Nat × Nat)))) (tp : List Int32) (im : Nat → Option TW) (q v : Int32) (H : CW pz h x ((nr, nw, A, fo, y, M, ps, ns), cls, tp, im)) (k : ∀ h', hN h' = hN h + acC pz.1 ps.length (oShift nw M q v).2 → hU h' = hU h + acV pz.1 ps.length (oShift nw M q v).2 → CW (acP pz.1 ps.length (oShift nw M q v).2, pz.2) h' x (nxT (nr, nw, A, fo, y, M, ps, ns) (oShift nw M q v).2, cls, tp, im) → Q (some (.int (oShift nw M q v).1)) h') : Calls d nX11_shift [.ref x, .int q, .int v] h (hN h + acC pz.1 ps.length (oShift nw M q v).2) (hU h + acV pz.1 ps.length (oShift nw M q v).2) Q := by
  obtain ⟨e, rfl⟩ : ∃ e, d = e + 1 := ⟨d - 1, by omega⟩
  obtain ⟨s0, p4, T0, HH, HM, b1, b2⟩ := H.un
  have hm := HM.1
  generalize hE1 : hN h + acC pz.1 ps.length (oShift nw M q v).2 = E1
  generalize hE2 : hU h + acV pz.1 ps.length (oShift nw M q v).2 = E2
  have no : oShift nw M q v = (-1, none) → hN h = E1 ∧ hU h = E2 ∧ Q (some (.int (-1))) h := fun e => by
    rw [e] at k hE1 hE2
    exact ⟨hE1, hE2, k h rfl rfl H⟩
  refine wX11_shift (by omega) (by omega) (by omega) x q v ?_
  simp only [rt_i, rt_b0, rt_b1, rt_v, rt_l, rt_o, rt_a, rV_none, rI_some, rL_some, rR_some, rT_some, rt_bI, hIf_sL, hIf_sR, hS_sI, hS_sL, hS_sR, hS_cpI, hR_sI, hR_sL, hR_cpI, hL_sI, hL_sR, hL_cpI, hI_sL, hI_sR, hN_sI, hN_sL, hN_sR, hN_cpI, hU_sI, hU_sL, hU_sR, hU_cpI, tn0, tn1, tn2, tn3, tn4, tn5, tn6, tn7, tn8, tn9, tn10, tn11, tn12, tn13, tn14, tn15, tn16, tn17, tn18, tn19, tn20, tn21, tn22, tn23, tn24, tn25, tn26, tn27, tn28, tn29, tn30, tn31, tn32, tn33, tn34, tn35, tn36, tn37, tn38, tn39, tn40, tn41, tn42, tn43, tn44, tn45, tn46, tn47, tn48, tn49, tn50, tn51, tn52, tn53, tn54, tn55, tn56, tn57, tn58, tn59, tn60, lH_eq, true_and, and_true, s0, p4, twq_0 T0]
  refine sp_hasWare (by omega) (x + 8) nr nw A q T0 HH ?_
  simp only [rI_some, bI0, rt_i, rt_b0, rt_b1, rt_v, rt_l, rt_o, rt_a, rV_none, rI_some, rL_some, rR_some, rT_some, rt_bI, hIf_sL, hIf_sR, hS_sI, hS_sL, hS_sR, hS_cpI, hR_sI, hR_sL, hR_cpI, hL_sI, hL_sR, hL_cpI, hI_sL, hI_sR, hN_sI, hN_sL, hN_sR, hN_cpI, hU_sI, hU_sL, hU_sR, hU_cpI, tn0, tn1, tn2, tn3, tn4, tn5, tn6, tn7, tn8, tn9, tn10, tn11, tn12, tn13, tn14, tn15, tn16, tn17, tn18, tn19, tn20, tn21, tn22, tn23, tn24, tn25, tn26, tn27, tn28, tn29, tn30, tn31, tn32, tn33, tn34, tn35, tn36, tn37, tn38, tn39, tn40, tn41, tn42, tn43, tn44, tn45, tn46, tn47, tn48, tn49, tn50, tn51, tn52, tn53, tn54, tn55, tn56, tn57, tn58, tn59, tn60, lH_eq, true_and, and_true]
  refine ⟨fun z => no (by unfold oShift; rw [if_neg (fun c => z c.1)]), fun z => ?_⟩
  have z := Decidable.not_not.mp z
  refine sp_isWithin (by omega) v 1 99 ?_
  simp only [rI_some, bI0, rt_i, rt_b0, rt_b1, rt_v, rt_l, rt_o, rt_a, rV_none, rI_some, rL_some, rR_some, rT_some, rt_bI, hIf_sL, hIf_sR, hS_sI, hS_sL, hS_sR, hS_cpI, hR_sI, hR_sL, hR_cpI, hL_sI, hL_sR, hL_cpI, hI_sL, hI_sR, hN_sI, hN_sL, hN_sR, hN_cpI, hU_sI, hU_sL, hU_sR, hU_cpI, tn0, tn1, tn2, tn3, tn4, tn5, tn6, tn7, tn8, tn9, tn10, tn11, tn12, tn13, tn14, tn15, tn16, tn17, tn18, tn19, tn20, tn21, tn22, tn23, tn24, tn25, tn26, tn27, tn28, tn29, tn30, tn31, tn32, tn33, tn34, tn35, tn36, tn37, tn38, tn39, tn40, tn41, tn42, tn43, tn44, tn45, tn46, tn47, tn48, tn49, tn50, tn51, tn52, tn53, tn54, tn55, tn56, tn57, tn58, tn59, tn60, lH_eq, true_and, and_true]
  refine ⟨fun w => no (by unfold oShift; rw [if_neg (fun c => w c.2.1)]), fun w => ?_⟩
  have w := Decidable.not_not.mp w
  obtain ⟨r, hr, rfl⟩ := rn_of (by omega) z
  have e2 : hI h (x + 8 + 1 + 4) r = M 4 r := (HM.2.1.2.2 r hr).1
  simp only [s0, p4, twq_0 T0, twq_1 T0, moq_0 hm, moq_1 hm, moq_2 hm, moq_3 hm, moq_4 hm, moq_5 hm, moq_6 hm, moq_7 hm, moq_8 hm, moq_9 hm, moq_10 hm, vp_in_nI (show r < 6 by omega) (show 6 < 2 ^ 31 by omega), nI_clamp (show r < 2 ^ 31 by omega), e2, true_and]
  refine ⟨fun u => ?_, fun u => no (by unfold oShift; rw [nI_clamp (by omega), if_neg (fun c => c.2.2 u)])⟩
  have e : oShift nw M (nI r) v = (M 4 r, some (setC M 4 r v)) := by unfold oShift; rw [nI_clamp (by omega), if_pos ⟨z, w, u⟩]
  rw [e] at k hE1 hE2
  have hE1 : hN h + rmC pz.1 ps.length = E1 := hE1
  have hE2 : hU h + rmV pz.1 ps.length = E2 := hE2
  subst hE1 hE2
  refine ⟨_, _, Nat.le_refl _, Nat.le_refl _, ?_⟩
  refine c_rem (by omega) x nr nw A M fo y ps ns cls tp im H (fun h1 n1 n2 C1 _ => ?_)
  obtain ⟨s01, p41, T01, HH1, HM1, -, -⟩ := C1.un
  have hm1 := HM1.1
  have e3 : hI h1 (x + 8 + 1 + 4) r = M 4 r := (HM1.2.1.2.2 r hr).1
  simp only [rV_none, rt_i, rt_b0, rt_b1, rt_v, rt_l, rt_o, rt_a, rV_none, rI_some, rL_some, rR_some, rT_some, rt_bI, hIf_sL, hIf_sR, hS_sI, hS_sL, hS_sR, hS_cpI, hR_sI, hR_sL, hR_cpI, hL_sI, hL_sR, hL_cpI, hI_sL, hI_sR, hN_sI, hN_sL, hN_sR, hN_cpI, hU_sI, hU_sL, hU_sR, hU_cpI, tn0, tn1, tn2, tn3, tn4, tn5, tn6, tn7, tn8, tn9, tn10, tn11, tn12, tn13, tn14, tn15, tn16, tn17, tn18, tn19, tn20, tn21, tn22, tn23, tn24, tn25, tn26, tn27, tn28, tn29, tn30, tn31, tn32, tn33, tn34, tn35, tn36, tn37, tn38, tn39, tn40, tn41, tn42, tn43, tn44, tn45, tn46, tn47, tn48, tn49, tn50, tn51, tn52, tn53, tn54, tn55, tn56, tn57, tn58, tn59, tn60, lH_eq, true_and, and_true, s01, p41, twq_0 T01, twq_1 T01, moq_0 hm1, moq_1 hm1, moq_2 hm1, moq_3 hm1, moq_4 hm1, moq_5 hm1, moq_6 hm1, moq_7 hm1, moq_8 hm1, moq_9 hm1, moq_10 hm1, vp_in_nI (show r < 6 by omega) (show 6 < 2 ^ 31 by omega), nI_clamp (show r < 2 ^ 31 by omega), e3]
  have f : Fr' h1 (sI h1 (x + 8 + 1 + 4) r v) (fun c => c = x + 8 + 1 + 4) := Fr'.sI rfl
  exact ⟨n1, n2, k _ n1 n2 (C1.mom f (fun c z => by omega) (HM1.cell (k := 4) (Or.inr (Or.inr rfl))))⟩
theorem c_lend {pz : PZT} {d : Nat} {h : AH} {Q : Option Value → AH → Prop} (hd : 8 ≤ d) (x nr nw : Nat) (A M : PC) (fo y : Int32) (ps : List PC) (ns : List (Nat × Nat × Int32)) (cls : List (List (List (Nat × Nat) × List (Nat × Nat)))) (tp : List Int32) (im : Nat → Option TW) (a b c : Int32) (H : CW pz h x ((nr, nw, A, fo, y, M, ps, ns), cls, tp, im)) (k : ∀ h', hN h' = hN h + acC pz.1 ps.length (oLend nr M a b c).2 → hU h' = hU h + acV pz.1 ps.length (oLend nr M a b c).2 → CW (acP pz.1 ps.length (oLend nr M a b c).2, pz.2) h' x (nxT (nr, nw, A, fo, y, M, ps, ns) (oLend nr M a b c).2, cls, tp, im) → Q (some (.int (oLend nr M a b c).1)) h') : Calls d nX11_lend [.ref x, .int a, .int b, .int c] h (hN h + acC pz.1 ps.length (oLend nr M a b c).2) (hU h + acV pz.1 ps.length (oLend nr M a b c).2) Q := by
  obtain ⟨e, rfl⟩ : ∃ e, d = e + 1 := ⟨d - 1, by omega⟩
  obtain ⟨s0, p4, T0, HH, HM, b1, b2⟩ := H.un
  have hm := HM.1
  generalize hE1 : hN h + acC pz.1 ps.length (oLend nr M a b c).2 = E1
  generalize hE2 : hU h + acV pz.1 ps.length (oLend nr M a b c).2 = E2
  have no : oLend nr M a b c = (-1000, none) → hN h = E1 ∧ hU h = E2 ∧ Q (some (.int (-1000))) h := fun e => by
    rw [e] at k hE1 hE2
    exact ⟨hE1, hE2, k h rfl rfl H⟩
  refine wX11_lend (by omega) (by omega) (by omega) x a b c ?_
  simp only [rt_i, rt_b0, rt_b1, rt_v, rt_l, rt_o, rt_a, rV_none, rI_some, rL_some, rR_some, rT_some, rt_bI, hIf_sL, hIf_sR, hS_sI, hS_sL, hS_sR, hS_cpI, hR_sI, hR_sL, hR_cpI, hL_sI, hL_sR, hL_cpI, hI_sL, hI_sR, hN_sI, hN_sL, hN_sR, hN_cpI, hU_sI, hU_sL, hU_sR, hU_cpI, tn0, tn1, tn2, tn3, tn4, tn5, tn6, tn7, tn8, tn9, tn10, tn11, tn12, tn13, tn14, tn15, tn16, tn17, tn18, tn19, tn20, tn21, tn22, tn23, tn24, tn25, tn26, tn27, tn28, tn29, tn30, tn31, tn32, tn33, tn34, tn35, tn36, tn37, tn38, tn39, tn40, tn41, tn42, tn43, tn44, tn45, tn46, tn47, tn48, tn49, tn50, tn51, tn52, tn53, tn54, tn55, tn56, tn57, tn58, tn59, tn60, lH_eq, true_and, and_true, s0, p4, twq_0 T0]
  refine sp_hasRunner (by omega) (x + 8) nr nw A a T0 HH ?_
  simp only [rI_some, bI0, rt_i, rt_b0, rt_b1, rt_v, rt_l, rt_o, rt_a, rV_none, rI_some, rL_some, rR_some, rT_some, rt_bI, hIf_sL, hIf_sR, hS_sI, hS_sL, hS_sR, hS_cpI, hR_sI, hR_sL, hR_cpI, hL_sI, hL_sR, hL_cpI, hI_sL, hI_sR, hN_sI, hN_sL, hN_sR, hN_cpI, hU_sI, hU_sL, hU_sR, hU_cpI, tn0, tn1, tn2, tn3, tn4, tn5, tn6, tn7, tn8, tn9, tn10, tn11, tn12, tn13, tn14, tn15, tn16, tn17, tn18, tn19, tn20, tn21, tn22, tn23, tn24, tn25, tn26, tn27, tn28, tn29, tn30, tn31, tn32, tn33, tn34, tn35, tn36, tn37, tn38, tn39, tn40, tn41, tn42, tn43, tn44, tn45, tn46, tn47, tn48, tn49, tn50, tn51, tn52, tn53, tn54, tn55, tn56, tn57, tn58, tn59, tn60, lH_eq, true_and, and_true, s0, p4, twq_0 T0]
  refine ⟨fun z => no (by unfold oLend; rw [if_neg (fun c => z c.2.1)]), fun z => ?_⟩
  have z := Decidable.not_not.mp z
  refine sp_hasRunner (by omega) (x + 8) nr nw A b T0 HH ?_
  simp only [rI_some, bI0, rt_i, rt_b0, rt_b1, rt_v, rt_l, rt_o, rt_a, rV_none, rI_some, rL_some, rR_some, rT_some, rt_bI, hIf_sL, hIf_sR, hS_sI, hS_sL, hS_sR, hS_cpI, hR_sI, hR_sL, hR_cpI, hL_sI, hL_sR, hL_cpI, hI_sL, hI_sR, hN_sI, hN_sL, hN_sR, hN_cpI, hU_sI, hU_sL, hU_sR, hU_cpI, tn0, tn1, tn2, tn3, tn4, tn5, tn6, tn7, tn8, tn9, tn10, tn11, tn12, tn13, tn14, tn15, tn16, tn17, tn18, tn19, tn20, tn21, tn22, tn23, tn24, tn25, tn26, tn27, tn28, tn29, tn30, tn31, tn32, tn33, tn34, tn35, tn36, tn37, tn38, tn39, tn40, tn41, tn42, tn43, tn44, tn45, tn46, tn47, tn48, tn49, tn50, tn51, tn52, tn53, tn54, tn55, tn56, tn57, tn58, tn59, tn60, lH_eq, true_and, and_true, s0, p4, twq_0 T0, twq_1 T0, hm.1]
  refine ⟨fun w => no (by unfold oLend; rw [if_neg (fun c => w c.2.2.1)]), fun w => ?_⟩
  have w := Decidable.not_not.mp w
  refine ⟨fun ne => ⟨fun u => no (by unfold oLend; rw [if_neg (fun c => absurd u (Int32.not_lt.mpr c.1.1))]), fun u => ⟨fun v => no (by unfold oLend; rw [if_neg (fun c => absurd v (Int32.not_lt.mpr c.1.2))]), fun v => ?_⟩⟩, fun ne => no (by unfold oLend; rw [if_neg (fun c => c.2.2.2.1 ne)])⟩
  have u := Int32.not_lt.mp u
  have v := Int32.not_lt.mp v
  obtain ⟨r, hr, rfl⟩ := rn_of (by omega) z
  obtain ⟨s, hs, rfl⟩ := rn_of (by omega) w
  have hne : r ≠ s := fun z => ne (by rw [z])
  have e2 : hI h (x + 8 + 1 + 2) r = M 2 r := (HM.2.1.2.1 r hr).2.1
  have e3 : hI h (x + 8 + 1 + 2) s = M 2 s := (HM.2.1.2.1 s hs).2.1
  refine sp_canLend (by omega) (x + 8 + 1) r s c hm (by omega) (by omega) ?_
  simp only [rI_some, bI0, rt_i, rt_b0, rt_b1, rt_v, rt_l, rt_o, rt_a, rV_none, rI_some, rL_some, rR_some, rT_some, rt_bI, hIf_sL, hIf_sR, hS_sI, hS_sL, hS_sR, hS_cpI, hR_sI, hR_sL, hR_cpI, hL_sI, hL_sR, hL_cpI, hI_sL, hI_sR, hN_sI, hN_sL, hN_sR, hN_cpI, hU_sI, hU_sL, hU_sR, hU_cpI, tn0, tn1, tn2, tn3, tn4, tn5, tn6, tn7, tn8, tn9, tn10, tn11, tn12, tn13, tn14, tn15, tn16, tn17, tn18, tn19, tn20, tn21, tn22, tn23, tn24, tn25, tn26, tn27, tn28, tn29, tn30, tn31, tn32, tn33, tn34, tn35, tn36, tn37, tn38, tn39, tn40, tn41, tn42, tn43, tn44, tn45, tn46, tn47, tn48, tn49, tn50, tn51, tn52, tn53, tn54, tn55, tn56, tn57, tn58, tn59, tn60, lH_eq, true_and, and_true, s0, p4, twq_0 T0, e2, e3]
  have cr : (nI r).toNatClampNeg = r := nI_clamp (by omega)
  have cs : (nI s).toNatClampNeg = s := nI_clamp (by omega)
  refine ⟨fun t => ?_, fun t => no (by unfold oLend; rw [cr, cs, if_neg (fun c => t c.2.2.2.2)])⟩
  have t := Decidable.not_not.mp t
  have e : oLend nr M (nI r) (nI s) c = (M 2 r - c, some (setC (setC M 2 r (M 2 r - c)) 2 s (M 2 s + c))) := by unfold oLend; rw [cr, cs, if_pos ⟨⟨u, v⟩, z, w, ne, t⟩]
  rw [e] at k hE1 hE2
  have hE1 : hN h + rmC pz.1 ps.length = E1 := hE1
  have hE2 : hU h + rmV pz.1 ps.length = E2 := hE2
  subst hE1 hE2
  refine ⟨_, _, Nat.le_refl _, Nat.le_refl _, ?_⟩
  refine c_rem (by omega) x nr nw A M fo y ps ns cls tp im H (fun h1 n1 n2 C1 _ => ?_)
  obtain ⟨s01, p41, T01, HH1, HM1, -, -⟩ := C1.un
  have hm1 := HM1.1
  have e4 : ∀ j, j < nr → hI h1 (x + 8 + 1 + 2) j = M 2 j := fun j hj => (HM1.2.1.2.1 j hj).2.1
  simp only [rV_none, rt_i, rt_b0, rt_b1, rt_v, rt_l, rt_o, rt_a, rV_none, rI_some, rL_some, rR_some, rT_some, rt_bI, hIf_sL, hIf_sR, hS_sI, hS_sL, hS_sR, hS_cpI, hR_sI, hR_sL, hR_cpI, hL_sI, hL_sR, hL_cpI, hI_sL, hI_sR, hN_sI, hN_sL, hN_sR, hN_cpI, hU_sI, hU_sL, hU_sR, hU_cpI, tn0, tn1, tn2, tn3, tn4, tn5, tn6, tn7, tn8, tn9, tn10, tn11, tn12, tn13, tn14, tn15, tn16, tn17, tn18, tn19, tn20, tn21, tn22, tn23, tn24, tn25, tn26, tn27, tn28, tn29, tn30, tn31, tn32, tn33, tn34, tn35, tn36, tn37, tn38, tn39, tn40, tn41, tn42, tn43, tn44, tn45, tn46, tn47, tn48, tn49, tn50, tn51, tn52, tn53, tn54, tn55, tn56, tn57, tn58, tn59, tn60, lH_eq, true_and, and_true, s01, p41, twq_0 T01, twq_1 T01, hm1.1]
  refine sp_give (by omega) (x + 8 + 1) r s c hm1 (by omega) (by omega) (fun h2 f2 g2 => ?_)
  have g2j : ∀ j, j < nr → hI h2 (x + 8 + 1 + 2) j = setC (setC M 2 r (M 2 r - c)) 2 s (M 2 s + c) 2 j := fun j hj => by
    rw [g2]
    unfold gvF setC
    rw [e4 r hr, e4 s hs, e4 j hj]
    simp only [true_and, if_neg (Ne.symm hne)]
  have HM2 : MomIs h2 (x + 8 + 1) nr nw (setC (setC M 2 r (M 2 r - c)) 2 s (M 2 s + c)) := by
    obtain ⟨h0, ⟨m0, m1, m2⟩, h3⟩ := HM1
    have g : ∀ q, q ≠ 2 → ∀ j, hI h2 (x + 8 + 1 + q) j = hI h1 (x + 8 + 1 + q) j := fun q hq => f2.2.2.2.2.1 _ (by omega)
    refine ⟨h0.fr f2, ⟨(g 0 (by decide) 0).trans m0, fun j hj => ⟨(g 1 (by decide) j).trans (m1 j hj).1, g2j j hj, (g 3 (by decide) j).trans (m1 j hj).2.2⟩, fun j hj => ⟨(g 4 (by decide) j).trans (m2 j hj).1, (g 5 (by decide) j).trans (m2 j hj).2⟩⟩, fun j h1 h2 => (g 3 (by decide) j).trans (h3 j h1 h2)⟩
  have C2 := C1.mom f2 (fun c z => by omega) HM2
  obtain ⟨s02, p42, T02, -, -, -, -⟩ := C2.un
  have hm2 := HM2.1
  have e5 : hI h2 (x + 8 + 1 + 2) r = M 2 r - c := by
    rw [g2j r hr]
    unfold setC
    simp only [true_and, if_neg hne, if_true]
  simp only [rV_none, rt_i, rt_b0, rt_b1, rt_v, rt_l, rt_o, rt_a, rV_none, rI_some, rL_some, rR_some, rT_some, rt_bI, hIf_sL, hIf_sR, hS_sI, hS_sL, hS_sR, hS_cpI, hR_sI, hR_sL, hR_cpI, hL_sI, hL_sR, hL_cpI, hI_sL, hI_sR, hN_sI, hN_sL, hN_sR, hN_cpI, hU_sI, hU_sL, hU_sR, hU_cpI, tn0, tn1, tn2, tn3, tn4, tn5, tn6, tn7, tn8, tn9, tn10, tn11, tn12, tn13, tn14, tn15, tn16, tn17, tn18, tn19, tn20, tn21, tn22, tn23, tn24, tn25, tn26, tn27, tn28, tn29, tn30, tn31, tn32, tn33, tn34, tn35, tn36, tn37, tn38, tn39, tn40, tn41, tn42, tn43, tn44, tn45, tn46, tn47, tn48, tn49, tn50, tn51, tn52, tn53, tn54, tn55, tn56, tn57, tn58, tn59, tn60, lH_eq, true_and, and_true, s02, p42, twq_0 T02, twq_1 T02, moq_0 hm2, moq_1 hm2, moq_2 hm2, moq_3 hm2, moq_4 hm2, moq_5 hm2, moq_6 hm2, moq_7 hm2, moq_8 hm2, moq_9 hm2, moq_10 hm2, vp_in_nI (show r < 5 by omega) (show 5 < 2 ^ 31 by omega), nI_clamp (show r < 2 ^ 31 by omega), e5]
  exact ⟨f2.2.2.1.trans n1, f2.2.2.2.1.trans n2, k h2 (f2.2.2.1.trans n1) (f2.2.2.2.1.trans n2) C2⟩
theorem c_day {pz : PZT} {d : Nat} {h : AH} {Q : Option Value → AH → Prop} (hd : 11 ≤ d) (x nr nw : Nat) (A M : PC) (fo y : Int32) (ps : List PC) (ns : List (Nat × Nat × Int32)) (cls : List (List (List (Nat × Nat) × List (Nat × Nat)))) (tp : List Int32) (im : Nat → Option TW) (H : CW pz h x ((nr, nw, A, fo, y, M, ps, ns), cls, tp, im)) (ok : wsOk ((nr, nw, A, fo, y, M, ps, ns), cls, tp, im)) (k : ∀ h', hN h' = hN h + acC pz.1 ps.length (oDay nr nw A M (foR cls fo)).2 → hU h' = hU h + acV pz.1 ps.length (oDay nr nw A M (foR cls fo)).2 → CW (acP pz.1 ps.length (oDay nr nw A M (foR cls fo)).2, pz.2) h' x (nxT (nr, nw, A, fo, y, M, ps, ns) (oDay nr nw A M (foR cls fo)).2, cls, tp, im) → Q (some (.int (oDay nr nw A M (foR cls fo)).1)) h') : Calls d nX11_day [.ref x] h (hN h + acC pz.1 ps.length (oDay nr nw A M (foR cls fo)).2) (hU h + acV pz.1 ps.length (oDay nr nw A M (foR cls fo)).2) Q := by
  obtain ⟨e, rfl⟩ : ∃ e, d = e + 1 := ⟨d - 1, by omega⟩
  obtain ⟨s0, p4, T0, HH, HM, b1, b2⟩ := H.un
  have hm := HM.1
  have m0 : hI h (x + 8 + 1) 0 = M 0 0 := HM.2.1.1
  generalize hE1 : hN h + acC pz.1 ps.length (oDay nr nw A M (foR cls fo)).2 = E1
  generalize hE2 : hU h + acV pz.1 ps.length (oDay nr nw A M (foR cls fo)).2 = E2
  have no : oDay nr nw A M (foR cls fo) = (-1, none) → hN h = E1 ∧ hU h = E2 ∧ Q (some (.int (-1))) h := fun e => by
    rw [e] at k hE1 hE2
    exact ⟨hE1, hE2, k h rfl rfl H⟩
  refine wX11_day (by omega) (by omega) (by omega) x ?_
  simp only [rt_i, rt_b0, rt_b1, rt_v, rt_l, rt_o, rt_a, rV_none, rI_some, rL_some, rR_some, rT_some, rt_bI, hIf_sL, hIf_sR, hS_sI, hS_sL, hS_sR, hS_cpI, hR_sI, hR_sL, hR_cpI, hL_sI, hL_sR, hL_cpI, hI_sL, hI_sR, hN_sI, hN_sL, hN_sR, hN_cpI, hU_sI, hU_sL, hU_sR, hU_cpI, tn0, tn1, tn2, tn3, tn4, tn5, tn6, tn7, tn8, tn9, tn10, tn11, tn12, tn13, tn14, tn15, tn16, tn17, tn18, tn19, tn20, tn21, tn22, tn23, tn24, tn25, tn26, tn27, tn28, tn29, tn30, tn31, tn32, tn33, tn34, tn35, tn36, tn37, tn38, tn39, tn40, tn41, tn42, tn43, tn44, tn45, tn46, tn47, tn48, tn49, tn50, tn51, tn52, tn53, tn54, tn55, tn56, tn57, tn58, tn59, tn60, lH_eq, true_and, and_true, s0, p4, twq_0 T0, twq_1 T0, hm.1, m0]
  refine ⟨fun z => no ?_, fun z => ⟨fun u => ?_, fun u => no ?_⟩⟩
  · have c4 : A 0 0 = 0 := by
      rcases HH with ⟨-, -, -, c4⟩ | ⟨c1, -⟩
      · exact c4
      · exact absurd z c1
    unfold oDay
    rw [if_neg (fun c => by rw [c4] at c; exact absurd c.1 (by decide))]
  · have hp : 0 < A 0 0 := (H.2.1.2.1 z).2
    have hh := H.hill ok (Or.inr (Or.inr hp))
    have hne : M 0 0 ≠ 999 := fun c => by rw [c] at u; exact absurd u (by decide)
    have e : oDay nr nw A M (foR cls fo) = (biF (gtF (foR cls fo) A nr nw (fun _ => none) M) nw, some (paF (foR cls fo) A nr nw (fun _ => none) M)) := if_pos ⟨hp, hne⟩
    rw [e] at k hE1 hE2
    have hE1 : hN h + rmC pz.1 ps.length = E1 := hE1
    have hE2 : hU h + rmV pz.1 ps.length = E2 := hE2
    subst hE1 hE2
    refine ⟨_, _, Nat.le_refl _, Nat.le_refl _, ?_⟩
    refine c_rem (by omega) x nr nw A M fo y ps ns cls tp im H (fun h1 n1 n2 C1 e0 => ?_)
    obtain ⟨s01, p41, T01, HH1, HM1, -, -⟩ := C1.un
    have p61 : hR h1 x 6 = x + 20 := C1.1.2.2.2.2.2.2.2.1
    have hz1 : hR h1 (x + 8) 0 ≠ 0 := by rw [e0]; exact z
    have ok1 : wsOk ((nr, nw, A, fo, y, M, psR M ps, ns), cls, tp, im) := ⟨twOk.act ok.1 hh.2.1 hh.2.2, ok.2⟩
    simp only [rV_none, s01, p41, p61, twq_0 T01, twq_1 T01, true_and]
    refine c_rule (by omega) x nr nw A M fo y (psR M ps) ns cls tp im C1 ok1 (fun ru HR hru => ?_)
    obtain ⟨q1, q2⟩ := C1.scr.1
    simp only [rR_some, q1.1, true_and]
    have hd1 := (C1.2.1.2.1 hz1).1
    rcases HH1 with ⟨c1, -⟩ | ⟨c1, c2⟩
    · exact absurd c1 hz1
    refine sp_pass (by omega) (x + 20) ru (hR h1 (x + 8) 0) (x + 8 + 1) nr nw (foR cls fo) (fun _ => none) A M q1 c2 HM1 HR (fun j hj => ⟨q2 j (by omega), fun z => by cases z⟩) (Or.inl (by omega)) (Or.inr (by omega)) (Or.inr (by omega)) (fun z => Or.inl (by have := hru z; omega)) (fun h2 f2 M2 => ?_)
    simp only [rI_some, rt_i, rt_b0, rt_b1, rt_v, rt_l, rt_o, rt_a, rV_none, rI_some, rL_some, rR_some, rT_some, rt_bI, hIf_sL, hIf_sR, hS_sI, hS_sL, hS_sR, hS_cpI, hR_sI, hR_sL, hR_cpI, hL_sI, hL_sR, hL_cpI, hI_sL, hI_sR, hN_sI, hN_sL, hN_sR, hN_cpI, hU_sI, hU_sL, hU_sR, hU_cpI, tn0, tn1, tn2, tn3, tn4, tn5, tn6, tn7, tn8, tn9, tn10, tn11, tn12, tn13, tn14, tn15, tn16, tn17, tn18, tn19, tn20, tn21, tn22, tn23, tn24, tn25, tn26, tn27, tn28, tn29, tn30, tn31, tn32, tn33, tn34, tn35, tn36, tn37, tn38, tn39, tn40, tn41, tn42, tn43, tn44, tn45, tn46, tn47, tn48, tn49, tn50, tn51, tn52, tn53, tn54, tn55, tn56, tn57, tn58, tn59, tn60, lH_eq, true_and, and_true]
    exact ⟨f2.2.2.1.trans n1, f2.2.2.2.1.trans n2, k h2 (f2.2.2.1.trans n1) (f2.2.2.2.1.trans n2) (C1.mom f2 (fun c z => by omega) M2)⟩
  · unfold oDay
    rw [if_neg (fun c => ?_)]
    have hh := H.hill ok (Or.inr (Or.inr c.1))
    have h3 := hh.2.2.1.2
    have h4 : (M 0 0).toInt ≠ 999 := fun z => c.2 (Int32.toInt_inj.mp (z.trans (by decide)))
    refine u ((Int32.lt_iff_toInt_lt).mpr ?_)
    have h5 : (999 : Int32).toInt = 999 := by decide
    rw [h5]
    omega
