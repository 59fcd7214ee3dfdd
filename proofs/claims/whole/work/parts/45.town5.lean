def rmE (h : AH) (t n : Nat) : Nat := if n < 20 ∧ hR h (t + 7) n = 0 then 6 else 0
def rmU (h : AH) (t n : Nat) : Nat := if n < 20 ∧ hR h (t + 7) n = 0 then 33 else 0
theorem fo_town {h h' : AH} {t nr nw : Nat} {A : PC} {fo x : Int32} {M : PC} {ps : List PC} {ns : List (Nat × Nat × Int32)} (w : wfA h) (H : TownIs h t (nr, nw, A, fo, x, M, ps, ns)) (hn : ps.length = 20) (f : FrG h h' (fun c => c = t ∨ c = t + 7)) (r1 : ∀ j, hR h' t j = hR h t j) (r2 : ∀ j, hI h' t j = if j = 5 then 19 else hI h t j) (r3 : ∀ j, j < 19 → hR h' (t + 7) j = hR h (t + 7) (j + 1)) (r4 : hR h' (t + 7) 19 = hR h (t + 7) 0) : TownIs h' t (nr, nw, A, fo, x, M, ps.tail, ns) ∧ hR h' (t + 7) 19 ≠ 0 := by
  obtain ⟨H0, ⟨b1, b2, b3, b4⟩, HH, ⟨i1, i2, i3, i4⟩, HM, HF, HP, HNs⟩ := H
  have lt := H0.lt w
  have gt := fun c (c1 : t + 1 ≤ c) (c2 : c ≤ t + 10) (c3 : c ≠ t + 7) => f.2.2.1 c (by omega) (by omega)
  have nz : ∀ i, i < 20 → hR h (t + 7) i ≠ 0 := fun i hi => by
    obtain ⟨N, hN⟩ : ∃ N, ps[i]? = some N := ⟨ps[i]'(by omega), List.getElem?_eq_getElem (by omega)⟩
    exact (HP i N hN).1
  have momSep : ∀ i, i < 20 → ∀ c, hR h (t + 7) i ≤ c → c ≤ hR h (t + 7) i + 5 → ¬ (c = t ∨ c = t + 7) := fun i hi c c1 c2 z => by
    have := twn_mom_dis H0 (HF i hi (nz i hi)).1 (HF i hi (nz i hi)).2.1
    omega
  have HMo : ∀ i, i < 20 → MomAt h' (hR h (t + 7) i) := fun i hi => by
    have hl := (HF i hi (nz i hi)).1.lt w
    exact (HF i hi (nz i hi)).1.frg w f (f.2.2.1 _ (by omega) (momSep i hi _ (by omega) (by omega))).1
  have rr : ∀ i, i < 20 → hR h' (t + 7) i = hR h (t + 7) (if i = 19 then 0 else i + 1) := fun i hi => by
    split
    · rename_i e; rw [e]; exact r4
    · exact r3 i (by omega)
  refine ⟨⟨H0.frg w f (fun j _ => r1 j) (gt (t + 1) (by omega) (by omega) (by omega)).1, ⟨b1, b2, by simp; omega, b4⟩, ?_, ⟨?_, ?_, ?_, ?_⟩, ?_, ?_, ?_, ?_⟩, by rw [r4]; exact nz 0 (by omega)⟩
  · rw [r1]
    exact HH.frg w f (fun hz c c1 c2 z => by have := HH.disT hz H0; omega)
  · rw [r2, if_neg (by decide)]; exact i1
  · rw [r2, if_neg (by decide)]; exact i2
  · rw [r2, if_pos rfl]; simp [hn]; rfl
  · rw [r2, if_neg (by decide)]; exact i4
  · exact HM.frg w b1 b2 f (fun c c1 c2 => by omega)
  · intro i hi hz
    rw [rr i hi] at hz ⊢
    have hi2 : (if i = 19 then 0 else i + 1) < 20 := by split <;> omega
    refine ⟨HMo _ hi2, (HF _ hi2 hz).2.1, fun j hj e => ?_⟩
    rw [rr j hj] at e
    have := (HF _ hi2 hz).2.2 _ (show (if j = 19 then 0 else j + 1) < 20 by split <;> omega) e
    grind
  · intro k N hk
    have hl := getq_lt hk
    simp [hn] at hl
    have hk2 : ps[k + 1]? = some N := by
      rw [List.getElem?_tail] at hk
      exact hk
    obtain ⟨p1, p2⟩ := HP (k + 1) N hk2
    rw [r3 k hl]
    exact ⟨p1, p2.frg w b1 b2 f (momSep (k + 1) (by omega))⟩
  · intro k q hk
    rw [(gt (t + 8) (by omega) (by omega) (by omega)).2.1, (gt (t + 9) (by omega) (by omega) (by omega)).2.1, (gt (t + 10) (by omega) (by omega) (by omega)).2.1]
    exact HNs k q hk
theorem sp_remember {d : Nat} {h : AH} {Q : Option Value → AH → Prop} (hd : 7 ≤ d) (t nr nw : Nat) (A : PC) (fo x : Int32) (M : PC) (ps : List PC) (ns : List (Nat × Nat × Int32)) (w : wfA h) (H : TownIs h t (nr, nw, A, fo, x, M, ps, ns)) (k : ∀ h', FrG h h' (ownS h t) → hN h' = hN h + rmE h t ps.length → hU h' = hU h + rmU h t ps.length → bfNew h h' t → (∀ j, ps.length < j → j < 20 → hR h' (t + 7) j = hR h (t + 7) j) → (∀ j, hR h' t j = hR h t j) → (∀ j, j ≠ 5 → hI h' t j = hI h t j) → TownIs h' t (nr, nw, A, fo, x, M, psR M ps, ns) → Q none h') : Calls d nX9_remember [.ref t] h (hN h + rmE h t ps.length) (hU h + rmU h t ps.length) Q := by
  obtain ⟨e, rfl⟩ : ∃ e, d = e + 1 := ⟨d - 1, by omega⟩
  have HT := H
  obtain ⟨H0, ⟨b1, b2, b3, b4⟩, HH, ⟨i1, i2, i3, i4⟩, HM, HF, HP, HNs⟩ := H
  have lt := H0.lt w
  refine wX9_remember (by omega) (by omega) (by omega) t ?_
  have h5 : (nI ps.length < 20) = (ps.length < 20) := nI_lt_iff (b := 20) (by omega) (by decide)
  simp only [rt_i, rt_b0, rt_b1, rt_v, rt_l, rt_o, rt_a, rV_none, rI_some, rL_some, rR_some, rT_some, rt_bI, hIf_sL, hIf_sR, hS_sI, hS_sL, hS_sR, hS_cpI, hR_sI, hR_sL, hR_cpI, hL_sI, hL_sR, hL_cpI, hI_sL, hI_sR, hN_sI, hN_sL, hN_sR, hN_cpI, hU_sI, hU_sL, hU_sR, hU_cpI, tn0, tn1, tn2, tn3, tn4, tn5, tn6, tn7, tn8, tn9, tn10, tn11, tn12, tn13, tn14, tn15, tn16, tn17, tn18, tn19, tn20, tn21, tn22, tn23, tn24, tn25, tn26, tn27, tn28, tn29, tn30, tn31, tn32, tn33, tn34, tn35, tn36, tn37, tn38, tn39, tn40, tn41, tn42, tn43, tn44, tn45, tn46, tn47, tn48, tn49, tn50, tn51, tn52, tn53, tn54, tn55, tn56, tn57, tn58, tn59, tn60, lH_eq, true_and, and_true, twq_0 H0, twq_1 H0, twq_2 H0, twq_3 H0, twq_4 H0, twq_5 H0, twq_6 H0, twq_7 H0, twq_8 H0, twq_9 H0, twq_10 H0, i3, h5]
  refine ⟨fun z => ?_, fun z => ?_⟩
  · have e1 : kpE h t ps.length = rmE h t ps.length := by simp only [kpE, rmE, z, true_and]
    have e2 : kpU h t ps.length = rmU h t ps.length := by simp only [kpU, rmU, z, true_and]
    refine ⟨_, _, Nat.le_refl _, Nat.le_refl _, ?_⟩
    rw [← e1, ← e2]
    refine keep_now (by omega) t (t + 1) nr nw A fo x M M ps ns w HT.q z HM (fun y => (HF _ z y).2.1) (fun h1 f g1 g2 g3 g7 g4 g5 g6 => ?_)
    have hSt : hS h1 t = (19, 10) := by rw [f.2.1 t (by omega)]; exact twq_0 H0
    simp only [rt_i, rt_b0, rt_b1, rt_v, rt_l, rt_o, rt_a, rV_none, rI_some, rL_some, rR_some, rT_some, rt_bI, hIf_sL, hIf_sR, hS_sI, hS_sL, hS_sR, hS_cpI, hR_sI, hR_sL, hR_cpI, hL_sI, hL_sR, hL_cpI, hI_sL, hI_sR, hN_sI, hN_sL, hN_sR, hN_cpI, hU_sI, hU_sL, hU_sR, hU_cpI, tn0, tn1, tn2, tn3, tn4, tn5, tn6, tn7, tn8, tn9, tn10, tn11, tn12, tn13, tn14, tn15, tn16, tn17, tn18, tn19, tn20, tn21, tn22, tn23, tn24, tn25, tn26, tn27, tn28, tn29, tn30, tn31, tn32, tn33, tn34, tn35, tn36, tn37, tn38, tn39, tn40, tn41, tn42, tn43, tn44, tn45, tn46, tn47, tn48, tn49, tn50, tn51, tn52, tn53, tn54, tn55, tn56, tn57, tn58, tn59, tn60, lH_eq, true_and, and_true, hSt, g5, i3, nI_1]
    have g6' := (g6.s5 (y := nI (ps.length + 1))).is (by rw [hI_sI, if_pos rfl, if_pos rfl]; simp)
    refine ⟨g1, g2, k _ (frg_sI f (fun _ => Or.inl rfl)) (by rw [hN_sI, g1, e1]) (by rw [hU_sI, g2, e2]) (fun i hi hz => g3 i hi hz) (fun j h1 _ => g7 j (by omega)) (fun j => g4 j) (fun j hj => by rw [hI_sI, if_pos rfl, if_neg hj]; exact g5 j) ?_⟩
    have ep : psR M ps = ps ++ [M] := by unfold psR; rw [if_neg (by omega)]
    rw [ep]
    exact g6'
  · have z : ps.length = 20 := by omega
    have nz : ∀ i, i < 20 → hR h (t + 7) i ≠ 0 := fun i hi => by
      obtain ⟨N, hN⟩ : ∃ N, ps[i]? = some N := ⟨ps[i]'(by omega), List.getElem?_eq_getElem (by omega)⟩
      exact (HP i N hN).1
    have e1 : rmE h t ps.length = 0 := by simp only [rmE, z]; rfl
    have e2 : rmU h t ps.length = 0 := by simp only [rmU, z]; rfl
    rw [e1, e2] at k ⊢
    refine sp_forgetOldest (by omega) t w H0 (fun i hi => ⟨nz i hi, (HF i hi (nz i hi)).1⟩) (fun h1 f1 n1 n2 r1 r2 r3 r4 => ?_)
    obtain ⟨HT1, nz1⟩ := fo_town w HT z f1 r1 r2 r3 r4
    have w1 := f1.2.2.2 w
    have hSt : hS h1 t = (19, 10) := by rw [f1.2.1 t (by omega)]; exact twq_0 H0
    have h15 : hI h1 t 5 = nI 19 := by rw [r2, if_pos rfl]; rfl
    have hl : ps.tail.length = 19 := by simp [z]
    simp only [rt_i, rt_b0, rt_b1, rt_v, rt_l, rt_o, rt_a, rV_none, rI_some, rL_some, rR_some, rT_some, rt_bI, hIf_sL, hIf_sR, hS_sI, hS_sL, hS_sR, hS_cpI, hR_sI, hR_sL, hR_cpI, hL_sI, hL_sR, hL_cpI, hI_sL, hI_sR, hN_sI, hN_sL, hN_sR, hN_cpI, hU_sI, hU_sL, hU_sR, hU_cpI, tn0, tn1, tn2, tn3, tn4, tn5, tn6, tn7, tn8, tn9, tn10, tn11, tn12, tn13, tn14, tn15, tn16, tn17, tn18, tn19, tn20, tn21, tn22, tn23, tn24, tn25, tn26, tn27, tn28, tn29, tn30, tn31, tn32, tn33, tn34, tn35, tn36, tn37, tn38, tn39, tn40, tn41, tn42, tn43, tn44, tn45, tn46, tn47, tn48, tn49, tn50, tn51, tn52, tn53, tn54, tn55, tn56, tn57, tn58, tn59, tn60, lH_eq, true_and, and_true, hSt, h15, r1, twq_0 H0, twq_1 H0, twq_2 H0, twq_3 H0, twq_4 H0, twq_5 H0, twq_6 H0, twq_7 H0, twq_8 H0, twq_9 H0, twq_10 H0]
    have kE : kpE h1 t 19 = 0 := by simp only [kpE, if_neg nz1]
    have kU : kpU h1 t 19 = 0 := by simp only [kpU, if_neg nz1]
    refine ⟨hN h, hU h, Nat.le_refl _, Nat.le_refl _, ?_⟩
    have HF1 : BfOk h1 t := HT1.2.2.2.2.2.1
    have HM1 : MomIs h1 (t + 1) nr nw M := HT1.2.2.2.2.1
    have key := keep_now (h := h1) (d := e) (Q := fun r9 h8 => rV r9 ((hS h8 t).1 = 10 + 9 ∧ (hS h8 t).1 = 10 + 9 ∧ hN (sI h8 t 5 (hI h8 t 5 + 1)) = hN h ∧ hU (sI h8 t 5 (hI h8 t 5 + 1)) = hU h ∧ Q none (sI h8 t 5 (hI h8 t 5 + 1)))) (by omega) t (t + 1) nr nw A fo x M M ps.tail ns w1 HT1.q (by omega) HM1 (fun y => (HF1 _ (by omega) y).2.1) (fun h2 f g1 g2 g3 _ g4 g5 g6 => ?_)
    · rw [hl, kE, kU, n1, n2] at key
      simp only [Nat.add_zero, rV_none, hN_sI, hU_sI] at key
      refine key.mono (fun r h8 q => ?_)
      simp only [rV] at q ⊢
      cases r with
      | none => simpa using q
      | some v => exact q.elim
    · rw [hl, kE, n1] at g1
      rw [hl, kU, n2] at g2
      have hSt2 : hS h2 t = (19, 10) := by rw [f.2.1 t (by omega)]; exact hSt
      have g6' := (g6.s5 (y := nI 20)).is (by rw [hI_sI, if_pos rfl, if_pos rfl]; simp [z])
      simp only [rV_none, hSt2, g5, h15, nI_1, hN_sI, hU_sI, true_and]
      have own1 : ∀ c, c < hN h → ownS h1 t c → ownS h t c := fun c hc y => by
        rcases y with y | y | ⟨i, hi, y1, y2⟩
        · exact Or.inl y
        · exact Or.inr (Or.inl y)
        · have rr : hR h1 (t + 7) i = hR h (t + 7) (if i = 19 then 0 else i + 1) := by
            split
            · rename_i e; rw [e]; exact r4
            · exact r3 i (by omega)
          rw [rr] at y1 y2
          exact Or.inr (Or.inr ⟨_, by split <;> omega, y1, y2⟩)
      have f' : FrG h h2 (ownS h t) := (f1.mono (fun c _ y => y.elim Or.inl (fun y => Or.inr (Or.inl y)))).trans f own1
      refine ⟨g1, g2, k _ (frg_sI f' (fun _ => Or.inl rfl)) g1 g2 (fun i hi hz => ?_) (fun j h1 h2 => by omega) (fun j => by rw [hR_sI, g4, r1]) (fun j hj => by rw [hI_sI, if_pos rfl, if_neg hj, g5, r2, if_neg hj]) ?_⟩
      · rcases g3 i hi hz with ⟨j, hj, e⟩ | e
        · have rr : hR h1 (t + 7) j = hR h (t + 7) (if j = 19 then 0 else j + 1) := by
            split
            · rename_i e; rw [e]; exact r4
            · exact r3 j (by omega)
          exact Or.inl ⟨_, by split <;> omega, rr.symm.trans e⟩
        · exact Or.inr (by rw [← n1]; exact e)
      · have ep : psR M ps = ps.tail ++ [M] := by unfold psR; rw [if_pos z]
        rw [ep]
        exact g6'
