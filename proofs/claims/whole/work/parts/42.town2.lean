/-! cells apart by their kinds -/
theorem mom_dis {h : AH} {a b : Nat} (HA : MomAt h a) (HB : MomAt h b) (hn : a ≠ b) : a + 6 ≤ b ∨ b + 6 ≤ a := by
  obtain ⟨a0, -, -, -, -, -, a1, a2, a3, a4, a5⟩ := HA
  obtain ⟨b0, -, -, -, -, -, b1, b2, b3, b4, b5⟩ := HB
  by_cases c : a + 6 ≤ b ∨ b + 6 ≤ a
  · exact c
  · exfalso
    have : b = a + 1 ∨ b = a + 2 ∨ b = a + 3 ∨ b = a + 4 ∨ b = a + 5 ∨ a = b + 1 ∨ a = b + 2 ∨ a = b + 3 ∨ a = b + 4 ∨ a = b + 5 := by omega
    rcases this with rfl | rfl | rfl | rfl | rfl | rfl | rfl | rfl | rfl | rfl <;> simp_all
theorem hil_mom_dis {h : AH} {a b : Nat} (HA : HillAt h a) (HB : MomAt h b) : a + 6 ≤ b ∨ b + 6 ≤ a := by
  obtain ⟨a0, -, -, -, -, -, a1, a2, a3, a4, a5⟩ := HA
  obtain ⟨b0, -, -, -, -, -, b1, b2, b3, b4, b5⟩ := HB
  by_cases c : a + 6 ≤ b ∨ b + 6 ≤ a
  · exact c
  · exfalso
    have : b = a ∨ b = a + 1 ∨ b = a + 2 ∨ b = a + 3 ∨ b = a + 4 ∨ b = a + 5 ∨ a = b + 1 ∨ a = b + 2 ∨ a = b + 3 ∨ a = b + 4 ∨ a = b + 5 := by omega
    rcases this with rfl | rfl | rfl | rfl | rfl | rfl | rfl | rfl | rfl | rfl | rfl <;> simp_all
theorem twn_mom_dis {h : AH} {t b : Nat} (HT : TwnAt h t) (HB : MomAt h b) (hn : b ≠ t + 1) : t + 11 ≤ b ∨ b + 6 ≤ t := by
  have d := mom_dis HT.mom HB (Ne.symm hn)
  obtain ⟨t0, -, -, -, -, -, t7, t8, t9, t10, -⟩ := HT
  obtain ⟨b0, -, -, -, -, -, b1, b2, b3, b4, b5⟩ := HB
  by_cases c : t + 11 ≤ b ∨ b + 6 ≤ t
  · exact c
  · exfalso
    have : b = t ∨ b = t + 7 ∨ b = t + 8 ∨ b = t + 9 ∨ b = t + 10 ∨ t = b + 1 ∨ t = b + 2 ∨ t = b + 3 ∨ t = b + 4 ∨ t = b + 5 := by omega
    rcases this with rfl | rfl | rfl | rfl | rfl | rfl | rfl | rfl | rfl | rfl <;> simp_all
theorem wf_lt {h : AH} {a k n : Nat} (w : wfA h) (e : hS h a = (k, n)) (hk : k ≠ 0) : a < hN h := w a (by rw [e]; exact hk)
theorem MomAt.lt {h : AH} {a : Nat} (w : wfA h) (H : MomAt h a) : a + 5 < hN h := wf_lt w (moq_10 H) (by decide)
theorem TwnAt.lt {h : AH} {t : Nat} (w : wfA h) (H : TwnAt h t) : t + 10 < hN h := wf_lt w (twq_9 H) (by decide)
theorem MomAt.frg {h h' : AH} {a : Nat} {S : Nat → Prop} (w : wfA h) (H : MomAt h a) (f : FrG h h' S) (hr : ∀ j, hR h' a j = hR h a j) : MomAt h' a := by
  have hl := H.lt w
  simp only [MomAt, hr, f.2.1 a (by omega), f.2.1 (a + 1) (by omega), f.2.1 (a + 2) (by omega), f.2.1 (a + 3) (by omega), f.2.1 (a + 4) (by omega), f.2.1 (a + 5) (by omega)] at H ⊢
  exact H
theorem TwnAt.frg {h h' : AH} {t : Nat} {S : Nat → Prop} (w : wfA h) (H : TwnAt h t) (f : FrG h h' S) (hr : ∀ j, j ≠ 0 → hR h' t j = hR h t j) (hr2 : ∀ j, hR h' (t + 1) j = hR h (t + 1) j) : TwnAt h' t := by
  have hl := H.lt w
  have hm := H.mom.frg w f hr2
  obtain ⟨h0, h1, h2, h3, h4, h5, h6, h7, h8, h9, h10⟩ := H
  refine ⟨?_, ?_, ?_, ?_, ?_, ?_, ?_, ?_, ?_, ?_, hm⟩
  · rw [f.2.1 t (by omega)]; exact h0
  · rw [hr 3 (by decide)]; exact h1
  · rw [hr 4 (by decide)]; exact h2
  · rw [hr 6 (by decide)]; exact h3
  · rw [hr 7 (by decide)]; exact h4
  · rw [hr 8 (by decide)]; exact h5
  · rw [f.2.1 _ (by omega)]; exact h6
  · rw [f.2.1 _ (by omega)]; exact h7
  · rw [f.2.1 _ (by omega)]; exact h8
  · rw [f.2.1 _ (by omega)]; exact h9
def kpE (h : AH) (t i : Nat) : Nat := if hR h (t + 7) i = 0 then 6 else 0
def kpU (h : AH) (t i : Nat) : Nat := if hR h (t + 7) i = 0 then 33 else 0
/-- a moment b is kept in place i of a town -/
def momEq (h h' : AH) (a b : Nat) : Prop := hI h' a 0 = hI h b 0 ∧ (∀ j, j < 5 → hI h' (a + 1) j = hI h (b + 1) j ∧ hI h' (a + 2) j = hI h (b + 2) j ∧ hI h' (a + 3) j = hI h (b + 3) j) ∧ (∀ j, j < 6 → hI h' (a + 4) j = hI h (b + 4) j ∧ hI h' (a + 5) j = hI h (b + 5) j)
theorem sp_keep {d : Nat} {h : AH} {Q : Option Value → AH → Prop} (hd : 6 ≤ d) (t i b : Nat) (w : wfA h) (H : TwnAt h t) (HB : MomAt h b) (hi : i < 20) (hx : hR h (t + 7) i ≠ 0 → MomAt h (hR h (t + 7) i) ∧ hR h (t + 7) i ≠ b ∧ hR h (t + 7) i ≠ t + 1) (k : ∀ h' a, FrG h h' (fun c => c = t + 7 ∨ (hR h (t + 7) i ≠ 0 ∧ mS (hR h (t + 7) i) c)) → hN h' = hN h + kpE h t i → hU h' = hU h + kpU h t i → a ≠ 0 → hR h' (t + 7) i = a → (∀ j, j ≠ i → hR h' (t + 7) j = hR h (t + 7) j) → (a = hR h (t + 7) i ∨ a = hN h) → MomAt h' a → momEq h h' a b → Q none h') : Calls d nX9_keep [.ref t, .int (nI i), .ref b] h (hN h + kpE h t i) (hU h + kpU h t i) Q := by
  obtain ⟨e, rfl⟩ : ∃ e, d = e + 1 := ⟨d - 1, by omega⟩
  refine wX9_keep (by omega) (by omega) (by omega) t (nI i) b ?_
  have lt := H.lt w
  have lb := HB.lt w
  simp only [rt_i, rt_b0, rt_b1, rt_v, rt_l, rt_o, rt_a, rV_none, rI_some, rL_some, rR_some, rT_some, rt_bI, hIf_sL, hIf_sR, hS_sI, hS_sL, hS_sR, hS_cpI, hR_sI, hR_sL, hR_cpI, hL_sI, hL_sR, hL_cpI, hI_sL, hI_sR, hN_sI, hN_sL, hN_sR, hN_cpI, hU_sI, hU_sL, hU_sR, hU_cpI, tn0, tn1, tn2, tn3, tn4, tn5, tn6, tn7, tn8, tn9, tn10, tn11, tn12, tn13, tn14, tn15, tn16, tn17, tn18, tn19, tn20, tn21, tn22, tn23, tn24, tn25, tn26, tn27, tn28, tn29, tn30, tn31, tn32, tn33, tn34, tn35, tn36, tn37, tn38, tn39, tn40, tn41, tn42, tn43, tn44, tn45, tn46, tn47, tn48, tn49, tn50, tn51, tn52, tn53, tn54, tn55, tn56, tn57, tn58, tn59, tn60, lH_eq, true_and, and_true, twq_0 H, twq_1 H, twq_2 H, twq_3 H, twq_4 H, twq_5 H, twq_6 H, twq_7 H, twq_8 H, twq_9 H, twq_10 H, vp_in_nI (show i < 20 by omega) (show 20 < 2 ^ 31 by omega), nI_clamp (show i < 2 ^ 31 by omega)]
  refine ⟨by decide, by decide, fun z => ⟨by decide, by decide, ?_⟩, fun z => ?_⟩
  · obtain ⟨HA, n1, n2⟩ := hx z
    have dd := mom_dis HA HB n1
    have dt := twn_mom_dis H HA n2
    refine ⟨by rw [moq_0 HA], ?_⟩
    refine sp_become (by omega) (hR h (t + 7) i) b HA HB dd (fun h' f q0 q1 q2 => ?_)
    simp only [rt_i, rt_b0, rt_b1, rt_v, rt_l, rt_o, rt_a, rV_none, rI_some, rL_some, rR_some, rT_some, rt_bI, hIf_sL, hIf_sR, hS_sI, hS_sL, hS_sR, hS_cpI, hR_sI, hR_sL, hR_cpI, hL_sI, hL_sR, hL_cpI, hI_sL, hI_sR, hN_sI, hN_sL, hN_sR, hN_cpI, hU_sI, hU_sL, hU_sR, hU_cpI, tn0, tn1, tn2, tn3, tn4, tn5, tn6, tn7, tn8, tn9, tn10, tn11, tn12, tn13, tn14, tn15, tn16, tn17, tn18, tn19, tn20, tn21, tn22, tn23, tn24, tn25, tn26, tn27, tn28, tn29, tn30, tn31, tn32, tn33, tn34, tn35, tn36, tn37, tn38, tn39, tn40, tn41, tn42, tn43, tn44, tn45, tn46, tn47, tn48, tn49, tn50, tn51, tn52, tn53, tn54, tn55, tn56, tn57, tn58, tn59, tn60, lH_eq, true_and, and_true, kpE, kpU, if_neg z, Nat.add_zero]
    refine ⟨f.2.2.1, f.2.2.2.1, k h' (hR h (t + 7) i) ((FrG.of f).mono (fun c _ y => Or.inr ⟨z, y⟩)) (by simp only [kpE, if_neg z]; exact f.2.2.1) (by simp only [kpU, if_neg z]; exact f.2.2.2.1) z (f.2.1 _ _) (fun j _ => f.2.1 _ _) (Or.inl rfl) (HA.fr f) ⟨q0, q1, q2⟩⟩
  · have e1 : kpE h t i = 6 := by simp only [kpE, if_pos z]
    have e2 : kpU h t i = 33 := by simp only [kpU, if_pos z]
    rw [e1, e2] at k ⊢
    have hf : fN 4 = 6 := rfl
    simp only [hf, hS_nC, if_true, true_and]
    refine ⟨by omega, by omega, hN h + 6, hU h + 33, by omega, by omega, ?_⟩
    have hu : hU (nC h 14 6) = hU h + 6 := rfl
    have hS0 : hS (nC h 14 6) (hN h) = (14, 6) := by rw [hS_nC, if_pos rfl]
    refine (sp_Minit (h := nC h 14 6) (by omega) (hN h) hS0 rfl (fun h1 f1 g1 g2 HA q1 q2 => ?_) : Calls e 38 _ _ (hN h + 6) (hU (nC h 14 6) + 27) _)
    have f2 : FrG h h1 (fun _ => False) := (frg_nC (FrG.refl h _)).trans f1 (fun c hc y => by omega)
    have rr : ∀ c, c < hN h → ∀ j, hR h1 c j = hR h c j := fun c hc => (f2.2.2.1 c hc (fun y => y)).1
    have ii : ∀ c, c < hN h → ∀ j, hI h1 c j = hI h c j := fun c hc => (f2.2.2.1 c hc (fun y => y)).2.1
    have HT1 : TwnAt h1 t := H.frg w f2 (fun j _ => rr t (by omega) j) (fun j => rr (t + 1) (by omega) j)
    have f3 : FrG h (sR h1 (t + 7) i (hN h)) (fun c => c = t + 7 ∨ (hR h (t + 7) i ≠ 0 ∧ mS (hR h (t + 7) i) c)) := frg_sR (f2.mono (fun _ _ y => y.elim)) (fun _ => Or.inl rfl)
    have HA3 : MomAt (sR h1 (t + 7) i (hN h)) (hN h) := by
      have e : ∀ j, hR (sR h1 (t + 7) i (hN h)) (hN h) j = hR h1 (hN h) j := fun j => by rw [hR_sR, if_neg (by omega)]
      simp only [MomAt, hS_sR, e] at HA ⊢
      exact HA
    have HB3 : MomAt (sR h1 (t + 7) i (hN h)) b := HB.frg w f3 (fun j => by rw [hR_sR, if_neg (by have := twq_6 H; have hb := moq_0 HB; intro z; rw [z, this] at hb; cases hb), rr b (by omega)])
    have h4 : hR (sR h1 (t + 7) i (hN h)) t 4 = t + 7 := by rw [hR_sR, if_neg (by omega)]; exact twq_2 HT1
    have h47 : hR (sR h1 (t + 7) i (hN h)) (t + 7) i = hN h := by rw [hR_sR, if_pos rfl, if_pos rfl]
    simp only [rt_i, rt_b0, rt_b1, rt_v, rt_l, rt_o, rt_a, rV_none, rI_some, rL_some, rR_some, rT_some, rt_bI, hIf_sL, hIf_sR, hS_sI, hS_sL, hS_sR, hS_cpI, hR_sI, hR_sL, hR_cpI, hL_sI, hL_sR, hL_cpI, hI_sL, hI_sR, hN_sI, hN_sL, hN_sR, hN_cpI, hU_sI, hU_sL, hU_sR, hU_cpI, tn0, tn1, tn2, tn3, tn4, tn5, tn6, tn7, tn8, tn9, tn10, tn11, tn12, tn13, tn14, tn15, tn16, tn17, tn18, tn19, tn20, tn21, tn22, tn23, tn24, tn25, tn26, tn27, tn28, tn29, tn30, tn31, tn32, tn33, tn34, tn35, tn36, tn37, tn38, tn39, tn40, tn41, tn42, tn43, tn44, tn45, tn46, tn47, tn48, tn49, tn50, tn51, tn52, tn53, tn54, tn55, tn56, tn57, tn58, tn59, tn60, lH_eq, true_and, and_true, twq_0 HT1, twq_1 HT1, twq_2 HT1, twq_3 HT1, twq_4 HT1, twq_5 HT1, twq_6 HT1, twq_7 HT1, twq_8 HT1, twq_9 HT1, twq_10 HT1, twq_6 H, g1, moq_0 HA, vp_in_nI (show i < 20 by omega) (show 20 < 2 ^ 31 by omega), nI_clamp (show i < 2 ^ 31 by omega), h4, h47, qCl, true_and]
    refine ⟨⟨by decide, by decide⟩, by decide, by decide, ?_⟩
    refine ⟨by decide, ?_⟩
    rw [← g1]
    have dd := mom_dis HA3 HB3 (by omega)
    refine sp_become (h := sR h1 (t + 7) i (hN h)) (by omega) (hN h) b HA3 HB3 dd (fun h' f p0 p1 p2 => ?_)
    simp only [rV_none]
    have bI : ∀ c, c < hN h → ∀ j, hI (sR h1 (t + 7) i (hN h)) c j = hI h c j := fun c hc j => ii c hc j
    refine ⟨f.2.2.1, by rw [f.2.2.2.1, hU_sR, g2, hu], k h' (hN h) (f3.trans (FrG.of f) (fun c hc y => by have := y.1; omega)) (by rw [f.2.2.1]; exact g1) (by rw [f.2.2.2.1, hU_sR, g2, hu]) (by omega) (by rw [f.2.1]; exact h47) (fun j hj => by rw [f.2.1, hR_sR, if_pos rfl, if_neg hj, rr (t + 7) (by omega)]) (Or.inr rfl) (HA3.fr f) ⟨?_, fun j hj => ?_, fun j hj => ?_⟩⟩
    · rw [p0, bI b (by omega)]
    · have := p1 j hj
      rw [this.1, this.2.1, this.2.2, bI (b + 1) (by omega), bI (b + 2) (by omega), bI (b + 3) (by omega)]
      exact ⟨rfl, rfl, rfl⟩
    · have := p2 j hj
      rw [this.1, this.2, bI (b + 4) (by omega), bI (b + 5) (by omega)]
      exact ⟨rfl, rfl⟩
