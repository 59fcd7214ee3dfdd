theorem sp_Tbecome {d : Nat} {h : AH} {Q : Option Value → AH → Prop} (hd : 8 ≤ d) (t u : Nat) (T : TW) (nr nw : Nat) (A : PC) (fo x : Int32) (M : PC) (ps : List PC) (ns : List (Nat × Nat × Int32)) (w : wfA h) (HT : TownIs h t T) (HU : TownIs h u (nr, nw, A, fo, x, M, ps, ns)) (hn : t ≠ u) (s1 : sepT h t u) (s2 : sepT h u t) (k : ∀ h', FrG h h' (blkS h t) → hN h' = hN h + 6 * kpN (hR h (t + 7)) ps.length → hU h' = hU h + 33 * kpN (hR h (t + 7)) ps.length → bfNew h h' t → (∀ j, ps.length ≤ j → hR h' (t + 7) j = hR h (t + 7) j) → (∀ j, j ≠ 0 → hR h' t j = hR h t j) → hR h' t 0 = hR h u 0 → TownIs h' t (nr, nw, A, fo, x, M, ps, ns) → Q none h') : Calls d nX9_become [.ref t, .ref u] h (hN h + 6 * kpN (hR h (t + 7)) ps.length) (hU h + 33 * kpN (hR h (t + 7)) ps.length) Q := by
  obtain ⟨e, rfl⟩ : ∃ e, d = e + 1 := ⟨d - 1, by omega⟩
  have H0 : TwnAt h t := by obtain ⟨nr, nw, A, fo, x, M, ps, ns⟩ := T; exact HT.1
  have HF : BfOk h t := by obtain ⟨nr, nw, A, fo, x, M, ps, ns⟩ := T; exact HT.2.2.2.2.2.1
  obtain ⟨ms, b5, i9, HNs⟩ : ∃ ms : List (Nat × Nat × Int32), ms.length ≤ 10 ∧ hI h t 9 = nI ms.length ∧ (∀ k q, ms[k]? = some q → hI h (t + 8) k = nI q.1 ∧ hI h (t + 9) k = nI q.2.1 ∧ hI h (t + 10) k = q.2.2) := by
    obtain ⟨nr, nw, A, fo, x, M, ps, ms⟩ := T
    obtain ⟨-, ⟨-, -, -, b4⟩, -, ⟨-, -, -, i4⟩, -, -, -, hq⟩ := HT
    exact ⟨ms, b4, i4, hq⟩
  have HU2 := HU
  obtain ⟨U0, ⟨b1, b2, b3, b4⟩, UH, ⟨u1, u2, u3, u4⟩, UM, UF, UP, UN⟩ := HU
  have dtu := twn_dis H0 U0 hn
  have lt := H0.lt w
  have lu := U0.lt w
  refine wX9_become (by omega) (by omega) (by omega) t u ?_
  have r0 : ∀ v c j, (c ≠ t ∨ j ≠ 0) → hR (sR h t 0 v) c j = hR h c j := fun v c j hc => by
    rw [hR_sR]
    rcases hc with hc | hc
    · rw [if_neg hc]
    · by_cases e : c = t
      · rw [if_pos e, if_neg hc]
      · rw [if_neg e]
  have eu : (u = t) = False := eq_false (fun z => hn z.symm)
  simp only [rt_i, rt_b0, rt_b1, rt_v, rt_l, rt_o, rt_a, rV_none, rI_some, rL_some, rR_some, rT_some, rt_bI, hIf_sL, hIf_sR, hS_sI, hS_sL, hS_sR, hS_cpI, hR_sI, hR_sL, hR_cpI, hL_sI, hL_sR, hL_cpI, hI_sL, hI_sR, hN_sI, hN_sL, hN_sR, hN_cpI, hU_sI, hU_sL, hU_sR, hU_cpI, tn0, tn1, tn2, tn3, tn4, tn5, tn6, tn7, tn8, tn9, tn10, tn11, tn12, tn13, tn14, tn15, tn16, tn17, tn18, tn19, tn20, tn21, tn22, tn23, tn24, tn25, tn26, tn27, tn28, tn29, tn30, tn31, tn32, tn33, tn34, tn35, tn36, tn37, tn38, tn39, tn40, tn41, tn42, tn43, tn44, tn45, tn46, tn47, tn48, tn49, tn50, tn51, tn52, tn53, tn54, tn55, tn56, tn57, tn58, tn59, tn60, lH_eq, true_and, and_true, twq_0 H0, twq_1 H0, twq_2 H0, twq_3 H0, twq_4 H0, twq_5 H0, twq_6 H0, twq_7 H0, twq_8 H0, twq_9 H0, twq_10 H0, twq_0 U0, twq_1 U0, twq_2 U0, twq_3 U0, twq_4 U0, twq_5 U0, twq_6 U0, twq_7 U0, twq_8 U0, twq_9 U0, twq_10 U0, hI_sI, eu, if_false, r0 _ t 3 (Or.inr (by decide)), r0 _ u 3 (Or.inl (fun z => hn z.symm)), u1, u2]
  have f3 : FrG h (sI (sI (sR h t 0 (hR h u 0)) t 1 fo) t 2 x) (blkS h t) := frg_sI (frg_sI (frg_sR (FrG.refl _ _) (fun _ => Or.inl (by omega))) (fun _ => Or.inl (by omega))) (fun _ => Or.inl (by omega))
  have HT3 : TwnAt (sI (sI (sR h t 0 (hR h u 0)) t 1 fo) t 2 x) t := H0.frg w f3 (fun j hj => by simp only [hR_sI]; exact r0 _ t j (Or.inr hj)) (fun j => by simp only [hR_sI]; exact r0 _ (t + 1) j (Or.inl (by omega)))
  have HU3 : TownIs (sI (sI (sR h t 0 (hR h u 0)) t 1 fo) t 2 x) u (nr, nw, A, fo, x, M, ps, ns) := HT.sep w HU2 hn s1 s2 f3
  have UM3 : MomIs (sI (sI (sR h t 0 (hR h u 0)) t 1 fo) t 2 x) (u + 1) nr nw M := HU3.2.2.2.2.1
  have dm := mom_dis HT3.mom UM3.1 (by omega)
  refine sp_become (h := sI (sI (sR h t 0 (hR h u 0)) t 1 fo) t 2 x) (by omega) (t + 1) (u + 1) HT3.mom UM3.1 dm (fun h4 f4 q0 q1 q2 => ?_)
  have g4u : ∀ c, ¬ mS (t + 1) c → ∀ j, hI h4 c j = hI (sI (sI (sR h t 0 (hR h u 0)) t 1 fo) t 2 x) c j := f4.2.2.2.2.1
  have eu5 : hI h4 u 5 = nI ps.length := by
    rw [g4u u (by unfold mS; omega), hI_sI, if_neg (fun z => hn z.symm), hI_sI, if_neg (fun z => hn z.symm)]; exact u3
  simp only [rV_none, f4.1, rt_i, rt_b0, rt_b1, rt_v, rt_l, rt_o, rt_a, rV_none, rI_some, rL_some, rR_some, rT_some, rt_bI, hIf_sL, hIf_sR, hS_sI, hS_sL, hS_sR, hS_cpI, hR_sI, hR_sL, hR_cpI, hL_sI, hL_sR, hL_cpI, hI_sL, hI_sR, hN_sI, hN_sL, hN_sR, hN_cpI, hU_sI, hU_sL, hU_sR, hU_cpI, tn0, tn1, tn2, tn3, tn4, tn5, tn6, tn7, tn8, tn9, tn10, tn11, tn12, tn13, tn14, tn15, tn16, tn17, tn18, tn19, tn20, tn21, tn22, tn23, tn24, tn25, tn26, tn27, tn28, tn29, tn30, tn31, tn32, tn33, tn34, tn35, tn36, tn37, tn38, tn39, tn40, tn41, tn42, tn43, tn44, tn45, tn46, tn47, tn48, tn49, tn50, tn51, tn52, tn53, tn54, tn55, tn56, tn57, tn58, tn59, tn60, lH_eq, true_and, and_true, twq_0 H0, twq_1 H0, twq_2 H0, twq_3 H0, twq_4 H0, twq_5 H0, twq_6 H0, twq_7 H0, twq_8 H0, twq_9 H0, twq_10 H0, twq_0 U0, twq_1 U0, twq_2 U0, twq_3 U0, twq_4 U0, twq_5 U0, twq_6 U0, twq_7 U0, twq_8 U0, twq_9 U0, twq_10 U0, eu5]
  have f6 : Fr' (sI (sI (sR h t 0 (hR h u 0)) t 1 fo) t 2 x) (sI h4 t 5 (nI ps.length)) (fun c => c = t ∨ mS (t + 1) c) := (f4.mono (T := fun c => c = t ∨ mS (t + 1) c) (fun c z => Or.inr z)).trans (Fr'.sI (Or.inl rfl))
  have fG : FrG h (sI h4 t 5 (nI ps.length)) (blkS h t) := f3.trans (FrG.of f6) (fun c _ z => Or.inl (by unfold mS at z; omega))
  have HU6 : TownIs (sI h4 t 5 (nI ps.length)) u (nr, nw, A, fo, x, M, ps, ns) := HT.sep w HU2 hn s1 s2 fG
  have R6 : ∀ c j, (c ≠ t ∨ j ≠ 0) → hR (sI h4 t 5 (nI ps.length)) c j = hR h c j := fun c j hc => by rw [f6.2.1]; exact r0 _ c j hc
  have T7 : hR (sI h4 t 5 (nI ps.length)) (t + 7) = hR h (t + 7) := funext (fun j => R6 _ j (Or.inl (by omega)))
  have U7 : hR (sI h4 t 5 (nI ps.length)) (u + 7) = hR h (u + 7) := funext (fun j => R6 _ j (Or.inl (by omega)))
  have R60 : hR (sI h4 t 5 (nI ps.length)) t 0 = hR h u 0 := by rw [f6.2.1]; simp only [hR_sI, hR_sR, if_true]
  have s16 : sepT (sI h4 t 5 (nI ps.length)) t u := by unfold sepT; rw [T7, U7]; exact s1
  have s26 : sepT (sI h4 t 5 (nI ps.length)) u t := by unfold sepT; rw [T7, U7]; exact s2
  have gt : ∀ j, hI (sI h4 t 5 (nI ps.length)) t j = if j = 5 then nI ps.length else if j = 2 then x else if j = 1 then fo else hI h t j := fun j => by
    rw [hI_sI, if_pos rfl, g4u t (by unfold mS; omega)]
    simp only [hI_sI, if_true, hI_sR]
  have HQ6 : TownQ (sI h4 t 5 (nI ps.length)) t (nr, nw, A, fo, x, M, ps.take 0, ms) := by
    refine ⟨HT3.fr f6, ⟨b1, b2, by simp, b5⟩, ?_, ⟨?_, ?_, ?_⟩, ?_, ?_, fun k N hk => ?_, fun k q hk => ?_⟩
    · rw [R60]
      have := HU6.2.2.1
      rwa [R6 u 0 (Or.inl (fun z => hn z.symm))] at this
    · rw [gt]; simp
    · rw [gt]; simp
    · rw [gt]; simpa using i9
    · refine UM3.of b1 b2 (HT3.mom.fr f6) ?_ (fun j hj => ?_) (fun j hj => ?_)
      · rw [hI_sI, if_neg (by omega)]; exact q0
      · have e5 : ∀ c, c ≠ t → hI (sI h4 t 5 (nI ps.length)) c j = hI h4 c j := fun c hc => by rw [hI_sI, if_neg hc]
        rw [e5 _ (by omega), e5 _ (by omega), e5 _ (by omega)]; exact q1 j hj
      · have e5 : ∀ c, c ≠ t → hI (sI h4 t 5 (nI ps.length)) c j = hI h4 c j := fun c hc => by rw [hI_sI, if_neg hc]
        rw [e5 _ (by omega), e5 _ (by omega)]; exact q2 j hj
    · intro i hi hz
      simp only [T7] at hz ⊢
      have hl := (HF i hi hz).1.lt w
      have dx := twn_mom_dis H0 (HF i hi hz).1 (HF i hi hz).2.1
      exact ⟨(HF i hi hz).1.frg w fG (fun j => R6 _ j (Or.inl (by omega))), (HF i hi hz).2⟩
    · simp at hk
    · have e8 : ∀ c j, t + 8 ≤ c → c ≤ t + 10 → hI (sI h4 t 5 (nI ps.length)) c j = hI h c j := fun c j c1 c2 => by
        rw [hI_sI, if_neg (by omega), g4u c (by unfold mS; omega), hI_sI, if_neg (by omega), hI_sI, if_neg (by omega), hI_sR]
      rw [e8 _ _ (by omega) (by omega), e8 _ _ (by omega) (by omega), e8 _ _ (by omega) (by omega)]
      exact HNs k q hk
  have n6 : hN (sI h4 t 5 (nI ps.length)) = hN h := f6.2.2.1
  have m6 : hU (sI h4 t 5 (nI ps.length)) = hU h := f6.2.2.2.1
  refine bc_loop (by omega) t u (sI h4 t 5 (nI ps.length)) (fG.2.2.2 w) nr nw A fo x M ps ns ms hn (by omega) (by rw [n6, T7]) (by rw [m6, T7]) (fun h' f n1 n2 q3 q7 q4 HF' => ?_) ps.length 0 _ (by omega) (FrG.refl _ _) (by simp [kpN]) (by simp [kpN]) (fun _ _ => rfl) (fun i hi hz => Or.inl ⟨i, hi, rfl⟩) (fun _ => rfl) (by rw [gt, if_pos rfl]) HQ6 HU6 s16 s26
  refine k h' (fG.trans f (fun c hc z => ?_)) n1 n2 (fun i hi hz => ?_) (fun j hj => by rw [q7 j hj, T7]) (fun j hj => ?_) ?_ HF'
  · unfold blkS at z ⊢
    rw [T7] at z
    exact z
  · have := q3 i hi hz
    rw [T7, n6] at this
    exact this
  · rw [q4]; exact R6 t j (Or.inr hj)
  · rw [q4]; exact R60
