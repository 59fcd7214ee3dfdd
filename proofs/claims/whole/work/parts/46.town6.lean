theorem sp_takeBack {d : Nat} {h : AH} {Q : Option Value → AH → Prop} (hd : 6 ≤ d) (t nr nw : Nat) (A : PC) (fo x : Int32) (M : PC) (ps : List PC) (ns : List (Nat × Nat × Int32)) (H : TownIs h t (nr, nw, A, fo, x, M, ps, ns)) (k0 : ps = [] → Q (some (.int 0)) h) (k1 : ∀ N qs, ps = qs ++ [N] → ∀ h', Fr' h h' (fun c => c = t ∨ mS (t + 1) c) → (∀ j, j ≠ 5 → hI h' t j = hI h t j) → TownIs h' t (nr, nw, A, fo, x, N, qs, ns) → Q (some (.int 1)) h') : Calls d nX9_takeBack [.ref t] h (hN h) (hU h) Q := by
  obtain ⟨e, rfl⟩ : ∃ e, d = e + 1 := ⟨d - 1, by omega⟩
  obtain ⟨H0, ⟨b1, b2, b3, b4⟩, HH, ⟨i1, i2, i3, i4⟩, HM, HF, HP, HNs⟩ := H
  refine wX9_takeBack (by omega) t ?_
  have h5 : (nI ps.length < 1) = (ps.length < 1) := nI_lt_iff (b := 1) (by omega) (by decide)
  simp only [rt_i, rt_b0, rt_b1, rt_v, rt_l, rt_o, rt_a, rV_none, rI_some, rL_some, rR_some, rT_some, rt_bI, hIf_sL, hIf_sR, hS_sI, hS_sL, hS_sR, hS_cpI, hR_sI, hR_sL, hR_cpI, hL_sI, hL_sR, hL_cpI, hI_sL, hI_sR, hN_sI, hN_sL, hN_sR, hN_cpI, hU_sI, hU_sL, hU_sR, hU_cpI, tn0, tn1, tn2, tn3, tn4, tn5, tn6, tn7, tn8, tn9, tn10, tn11, tn12, tn13, tn14, tn15, tn16, tn17, tn18, tn19, tn20, tn21, tn22, tn23, tn24, tn25, tn26, tn27, tn28, tn29, tn30, tn31, tn32, tn33, tn34, tn35, tn36, tn37, tn38, tn39, tn40, tn41, tn42, tn43, tn44, tn45, tn46, tn47, tn48, tn49, tn50, tn51, tn52, tn53, tn54, tn55, tn56, tn57, tn58, tn59, tn60, lH_eq, true_and, and_true, twq_0 H0, twq_1 H0, twq_2 H0, twq_3 H0, twq_4 H0, twq_5 H0, twq_6 H0, twq_7 H0, twq_8 H0, twq_9 H0, twq_10 H0, i3, h5, hI_sI, if_true]
  refine ⟨fun z => k0 (List.eq_nil_of_length_eq_zero (by omega)), fun z => ?_⟩
  obtain ⟨qs, N, rfl⟩ : ∃ qs N, ps = qs ++ [N] := ⟨ps.dropLast, ps.getLast (fun y => z (by rw [y]; decide)), (List.dropLast_concat_getLast _).symm⟩
  simp only [List.length_append, List.length_cons, List.length_nil] at b3 i3 ⊢
  have e1 : nI (qs.length + (0 + 1)) - 1 = nI qs.length := nI_sub1 qs.length
  simp only [e1, vp_in_nI (show qs.length < 20 by omega) (show 20 < 2 ^ 31 by omega), nI_clamp (show qs.length < 2 ^ 31 by omega)]
  obtain ⟨p1, p2⟩ := HP qs.length N (by simp)
  have HX := HF qs.length (by omega) p1
  refine ⟨by decide, by decide, trivial, fun _ => ⟨by decide, by decide, trivial, ?_⟩, fun y => absurd y p1⟩
  have f0 : Fr' h (sI h t 5 (nI qs.length)) (fun c => c = t ∨ mS (t + 1) c) := Fr'.sI (Or.inl rfl)
  have dd := mom_dis H0.mom HX.1 (Ne.symm HX.2.1)
  refine sp_become (h := sI h t 5 (nI qs.length)) (by omega) (t + 1) (hR h (t + 7) qs.length) (H0.mom.fr f0) (HX.1.fr f0) dd (fun h' f q0 q1 q2 => ?_)
  simp only [rV_none, rt_i, rt_b0, rt_b1, rt_v, rt_l, rt_o, rt_a, rV_none, rI_some, rL_some, rR_some, rT_some, rt_bI, hIf_sL, hIf_sR, hS_sI, hS_sL, hS_sR, hS_cpI, hR_sI, hR_sL, hR_cpI, hL_sI, hL_sR, hL_cpI, hI_sL, hI_sR, hN_sI, hN_sL, hN_sR, hN_cpI, hU_sI, hU_sL, hU_sR, hU_cpI, tn0, tn1, tn2, tn3, tn4, tn5, tn6, tn7, tn8, tn9, tn10, tn11, tn12, tn13, tn14, tn15, tn16, tn17, tn18, tn19, tn20, tn21, tn22, tn23, tn24, tn25, tn26, tn27, tn28, tn29, tn30, tn31, tn32, tn33, tn34, tn35, tn36, tn37, tn38, tn39, tn40, tn41, tn42, tn43, tn44, tn45, tn46, tn47, tn48, tn49, tn50, tn51, tn52, tn53, tn54, tn55, tn56, tn57, tn58, tn59, tn60, lH_eq, true_and, and_true]
  have f2 := f0.trans (f.mono (T := fun c => c = t ∨ mS (t + 1) c) (fun c y => Or.inr y))
  have dt := twn_mom_dis H0 HX.1 HX.2.1
  have eI : ∀ c j, c ≠ t → hI (sI h t 5 (nI qs.length)) c j = hI h c j := fun c j hc => by rw [hI_sI, if_neg hc]
  have gt : ∀ j, hI h' t j = hI (sI h t 5 (nI qs.length)) t j := f.2.2.2.2.1 t (by unfold mS; omega)
  have mom : ∀ i, i < 20 → hR h (t + 7) i ≠ 0 → ∀ c, hR h (t + 7) i ≤ c → c ≤ hR h (t + 7) i + 5 → ¬ (c = t ∨ mS (t + 1) c) := fun i hi hz c c1 c2 y => by
    have := twn_mom_dis H0 (HF i hi hz).1 (HF i hi hz).2.1
    unfold mS at y
    omega
  refine ⟨f2.2.2.1, f2.2.2.2.1, k1 N qs rfl h' f2 (fun j hj => by rw [gt, hI_sI, if_pos rfl, if_neg hj]) ⟨H0.fr f2, ⟨b1, b2, by omega, b4⟩, ?_, ⟨?_, ?_, ?_, ?_⟩, ?_, ?_, ?_, ?_⟩⟩
  · rw [f2.2.1]
    rcases HH with HH | ⟨h1, h2⟩
    · exact Or.inl HH
    · have := twn_hil_dis H0 h2.1
      exact Or.inr ⟨h1, h2.fr f2 (fun b c1 c2 y => by unfold mS at y; omega)⟩
  · rw [gt, hI_sI, if_pos rfl, if_neg (by decide)]; exact i1
  · rw [gt, hI_sI, if_pos rfl, if_neg (by decide)]; exact i2
  · rw [gt, hI_sI, if_pos rfl, if_pos rfl]
  · rw [gt, hI_sI, if_pos rfl, if_neg (by decide)]; exact i4
  · refine p2.of b1 b2 (H0.mom.fr f2) ?_ (fun j hj => ?_) (fun j hj => ?_)
    · rw [q0, eI _ _ (by omega)]
    · have := q1 j hj
      rw [this.1, this.2.1, this.2.2, eI _ _ (by omega), eI _ _ (by omega), eI _ _ (by omega)]
      exact ⟨rfl, rfl, rfl⟩
    · have := q2 j hj
      rw [this.1, this.2, eI _ _ (by omega), eI _ _ (by omega)]
      exact ⟨rfl, rfl⟩
  · intro i hi hz
    simp only [f2.2.1] at hz ⊢
    exact ⟨(HF i hi hz).1.fr f2, (HF i hi hz).2⟩
  · intro k N' hk
    have hl := getq_lt hk
    obtain ⟨r1, r2⟩ := HP k N' (by rw [List.getElem?_append_left hl]; exact hk)
    rw [f2.2.1]
    exact ⟨r1, r2.fr b1 b2 f2 (mom k (by omega) r1)⟩
  · intro k q hk
    rw [f2.2.2.2.2.1 (t + 8) (by unfold mS; omega), f2.2.2.2.2.1 (t + 9) (by unfold mS; omega), f2.2.2.2.2.1 (t + 10) (by unfold mS; omega)]
    exact HNs k q hk
/-- the moment with which a hill begins -/
def begM (A : PC) : PC := fun k j => match k with
  | 0 => 0
  | 1 => A 1 j
  | 2 => A 2 j
  | 3 => 0
  | 4 => A 3 j
  | _ => -1
theorem HilIs.s0 {h : AH} {a nr nw t u : Nat} {A : PC} (H : HilIs h a nr nw A) (hn : a ≠ t) : HilIs (sR h t 0 u) a nr nw A := by
  obtain ⟨H0, H1⟩ := H
  refine ⟨?_, H1⟩
  have e : ∀ j, hR (sR h t 0 u) a j = hR h a j := fun j => by rw [hR_sR, if_neg hn]
  simp only [HillAt, hS_sR, e] at H0 ⊢
  exact H0
theorem sp_settleOn {d : Nat} {h : AH} {Q : Option Value → AH → Prop} (hd : 7 ≤ d) (t a nr nw nr' nw' : Nat) (A A' : PC) (fo x : Int32) (M : PC) (ps : List PC) (ns : List (Nat × Nat × Int32)) (w : wfA h) (H : TownIs h t (nr, nw, A, fo, x, M, ps, ns)) (HA : HilIs h a nr' nw' A') (ha : a ≠ 0) (k : ∀ h', FrG h h' (fun c => c = t ∨ mS (t + 1) c) → hN h' = hN h → hU h' = hU h → (∀ j, j ≠ 0 → hR h' t j = hR h t j) → hR h' t 0 = a → TownIs h' t (nr', nw', A', fo, x, begM A', [], []) → Q none h') : Calls d nX9_settleOn [.ref t, .ref a] h (hN h) (hU h) Q := by
  obtain ⟨e, rfl⟩ : ∃ e, d = e + 1 := ⟨d - 1, by omega⟩
  obtain ⟨H0, ⟨b1, b2, b3, b4⟩, HH, ⟨i1, i2, i3, i4⟩, HM, HF, HP, HNs⟩ := H
  have lt := H0.lt w
  have dt := twn_hil_dis H0 HA.1
  have HA2 := HA
  obtain ⟨A0, A1, A2, A3, A4, A5, A6, A7, A8⟩ := HA
  refine wX9_settleOn (by omega) t a ?_
  have r0 : ∀ j, j ≠ 0 → hR (sR h t 0 a) t j = hR h t j := fun j hj => by rw [hR_sR, if_pos rfl, if_neg hj]
  simp only [rt_i, rt_b0, rt_b1, rt_v, rt_l, rt_o, rt_a, rV_none, rI_some, rL_some, rR_some, rT_some, rt_bI, hIf_sL, hIf_sR, hS_sI, hS_sL, hS_sR, hS_cpI, hR_sI, hR_sL, hR_cpI, hL_sI, hL_sR, hL_cpI, hI_sL, hI_sR, hN_sI, hN_sL, hN_sR, hN_cpI, hU_sI, hU_sL, hU_sR, hU_cpI, tn0, tn1, tn2, tn3, tn4, tn5, tn6, tn7, tn8, tn9, tn10, tn11, tn12, tn13, tn14, tn15, tn16, tn17, tn18, tn19, tn20, tn21, tn22, tn23, tn24, tn25, tn26, tn27, tn28, tn29, tn30, tn31, tn32, tn33, tn34, tn35, tn36, tn37, tn38, tn39, tn40, tn41, tn42, tn43, tn44, tn45, tn46, tn47, tn48, tn49, tn50, tn51, tn52, tn53, tn54, tn55, tn56, tn57, tn58, tn59, tn60, lH_eq, true_and, and_true, twq_0 H0, twq_1 H0, twq_2 H0, twq_3 H0, twq_4 H0, twq_5 H0, twq_6 H0, twq_7 H0, twq_8 H0, twq_9 H0, twq_10 H0, r0 3 (by decide)]
  have fR : FrG h (sR h t 0 a) (fun c => c = t ∨ mS (t + 1) c) := frg_sR (FrG.refl _ _) (fun _ => Or.inl rfl)
  have HT1 : TwnAt (sR h t 0 a) t := H0.frg w fR r0 (fun j => by rw [hR_sR, if_neg (by omega)])
  have HA1 := HA2.s0 (t := t) (u := a) (by omega)
  have dm := hil_mom_dis HA1.1 HT1.mom
  refine sp_begin (h := sR h t 0 a) (by omega) (t + 1) a HT1.mom HA1.1 dm.symm (fun h2 f q0 q1 q2 => ?_)
  have gt : ∀ j, hI h2 t j = hI h t j := f.2.2.2.2.1 t (by unfold mS; omega)
  simp only [rV_none, rt_i, rt_b0, rt_b1, rt_v, rt_l, rt_o, rt_a, rV_none, rI_some, rL_some, rR_some, rT_some, rt_bI, hIf_sL, hIf_sR, hS_sI, hS_sL, hS_sR, hS_cpI, hR_sI, hR_sL, hR_cpI, hL_sI, hL_sR, hL_cpI, hI_sL, hI_sR, hN_sI, hN_sL, hN_sR, hN_cpI, hU_sI, hU_sL, hU_sR, hU_cpI, tn0, tn1, tn2, tn3, tn4, tn5, tn6, tn7, tn8, tn9, tn10, tn11, tn12, tn13, tn14, tn15, tn16, tn17, tn18, tn19, tn20, tn21, tn22, tn23, tn24, tn25, tn26, tn27, tn28, tn29, tn30, tn31, tn32, tn33, tn34, tn35, tn36, tn37, tn38, tn39, tn40, tn41, tn42, tn43, tn44, tn45, tn46, tn47, tn48, tn49, tn50, tn51, tn52, tn53, tn54, tn55, tn56, tn57, tn58, tn59, tn60, lH_eq, true_and, and_true, f.1, twq_0 H0, twq_1 H0, twq_2 H0, twq_3 H0, twq_4 H0, twq_5 H0, twq_6 H0, twq_7 H0, twq_8 H0, twq_9 H0, twq_10 H0]
  have f9 : Fr' (sR h t 0 a) (sI (sI h2 t 5 0) t 9 0) (fun c => c = t ∨ mS (t + 1) c) := ((f.mono (T := fun c => c = t ∨ mS (t + 1) c) (fun c y => Or.inr y)).trans (Fr'.sI (Or.inl rfl))).trans (Fr'.sI (Or.inl rfl))
  have fG : FrG h (sI (sI h2 t 5 0) t 9 0) (fun c => c = t ∨ mS (t + 1) c) := fR.trans (FrG.of f9) (fun c _ y => y)
  have eI : ∀ c j, c ≠ t → hI (sI (sI h2 t 5 0) t 9 0) c j = hI h2 c j := fun c j hc => by rw [hI_sI, if_neg hc, hI_sI, if_neg hc]
  refine ⟨f.2.2.1, f.2.2.2.1, k _ fG f.2.2.1 f.2.2.2.1 (fun j hj => by rw [f9.2.1]; exact r0 j hj) (by rw [f9.2.1, hR_sR, if_pos rfl, if_pos rfl]) ⟨HT1.fr f9, ⟨A3, A4, by simp, by simp⟩, ?_, ⟨?_, ?_, ?_, ?_⟩, ⟨HT1.mom.fr f9, ⟨?_, fun j hj => ?_, fun j hj => ?_⟩, fun j h1 h2 => ?_⟩, ?_, fun k N hk => ?_, fun k q hk => ?_⟩⟩
  · have e : hR (sI (sI h2 t 5 0) t 9 0) t 0 = a := by rw [f9.2.1, hR_sR, if_pos rfl, if_pos rfl]
    rw [e]
    exact Or.inr ⟨ha, HA1.fr f9 (fun b c1 c2 y => by unfold mS at y; omega)⟩
  · rw [hI_sI, if_pos rfl, if_neg (by decide), hI_sI, if_pos rfl, if_neg (by decide), gt]; exact i1
  · rw [hI_sI, if_pos rfl, if_neg (by decide), hI_sI, if_pos rfl, if_neg (by decide), gt]; exact i2
  · rw [hI_sI, if_pos rfl, if_neg (by decide), hI_sI, if_pos rfl, if_pos rfl]; rfl
  · rw [hI_sI, if_pos rfl, if_pos rfl]; rfl
  · show hI _ (t + 1) 0 = 0
    rw [eI _ _ (by omega)]; exact q0
  · have := q1 j (by omega)
    have h6 := A6 j hj
    refine ⟨?_, ?_, ?_⟩
    · show hI _ (t + 1 + 1) j = A' 1 j
      rw [eI _ _ (by omega), this.1]; exact h6.1
    · show hI _ (t + 1 + 2) j = A' 2 j
      rw [eI _ _ (by omega), this.2.1]; exact h6.2
    · show hI _ (t + 1 + 3) j = 0
      rw [eI _ _ (by omega), this.2.2]
  · have := q2 j (by omega)
    refine ⟨?_, ?_⟩
    · show hI _ (t + 1 + 4) j = A' 3 j
      rw [eI _ _ (by omega), this.1]; exact A7 j hj
    · show hI _ (t + 1 + 5) j = -1
      rw [eI _ _ (by omega), this.2]
  · rw [eI _ _ (by omega), (q1 j h2).2.2]
  · intro i hi hz
    have e7 : ∀ j, hR (sI (sI h2 t 5 0) t 9 0) (t + 7) j = hR h (t + 7) j := fun j => by rw [f9.2.1, hR_sR, if_neg (by omega)]
    simp only [e7] at hz ⊢
    have dx := twn_mom_dis H0 (HF i hi hz).1 (HF i hi hz).2.1
    have hl := (HF i hi hz).1.lt w
    exact ⟨(HF i hi hz).1.frg w fG (fG.2.2.1 _ (by omega) (by unfold mS; omega)).1, (HF i hi hz).2⟩
  · cases k <;> simp at hk
  · cases k <;> simp at hk
