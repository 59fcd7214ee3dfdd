/-! moments are begun and copied -/
theorem hI_cp0 (h : AH) (a b n c j : Nat) : hI (cpI h a 0 b 0 n) c j = if c = b then (if j < n then hI h a j else hI h b j) else hI h c j := by
  rw [hI_cpI]
  by_cases e : c = b
  · rw [if_pos e, if_pos e]
    simp only [va_cpy, Nat.zero_le, true_and, Nat.zero_add, Nat.sub_zero]
  · rw [if_neg e, if_neg e]
def mS (a : Nat) : Nat → Prop := fun b => a ≤ b ∧ b ≤ a + 5
theorem sp_become {d : Nat} {h : AH} {Q : Option Value → AH → Prop} (hd : 5 ≤ d) (a b : Nat) (HA : MomAt h a) (HB : MomAt h b) (dab : a + 6 ≤ b ∨ b + 6 ≤ a) (k : ∀ h', Fr' h h' (mS a) → hI h' a 0 = hI h b 0 → (∀ j, j < 5 → hI h' (a + 1) j = hI h (b + 1) j ∧ hI h' (a + 2) j = hI h (b + 2) j ∧ hI h' (a + 3) j = hI h (b + 3) j) → (∀ j, j < 6 → hI h' (a + 4) j = hI h (b + 4) j ∧ hI h' (a + 5) j = hI h (b + 5) j) → Q none h') : Calls d nX4_become [.ref a, .ref b] h (hN h) (hU h) Q := by
  obtain ⟨e, rfl⟩ : ∃ e, d = e + 1 := ⟨d - 1, by omega⟩
  refine wX4_become (by omega) a b ?_
  simp only [rt_i, rt_b0, rt_b1, rt_v, rt_l, rt_o, rt_a, rV_none, rI_some, rL_some, rR_some, rT_some, hS_sI, hS_sL, hS_sR, hS_cpI, hR_sI, hR_sL, hR_cpI, hL_sI, hL_sR, hL_cpI, hI_sL, hI_sR, hN_sI, hN_sL, hN_sR, hN_cpI, hU_sI, hU_sL, hU_sR, hU_cpI, tn0, tn1, tn2, tn3, tn4, tn5, tn6, tn7, tn8, tn9, tn10, tn11, tn12, tn13, tn14, tn15, tn16, tn17, tn18, tn19, tn20, tn21, tn22, tn23, tn24, tn25, tn26, tn27, tn28, tn29, tn30, tn31, tn32, tn33, tn34, tn35, tn36, tn37, tn38, tn39, tn40, tn41, tn42, tn43, tn44, tn45, tn46, tn47, tn48, tn49, tn50, tn51, tn52, tn53, tn54, tn55, tn56, tn57, tn58, tn59, tn60, lH_eq, true_and, moq_0 HA, moq_1 HA, moq_2 HA, moq_3 HA, moq_4 HA, moq_5 HA, moq_6 HA, moq_7 HA, moq_8 HA, moq_9 HA, moq_10 HA, moq_0 HB, moq_1 HB, moq_2 HB, moq_3 HB, moq_4 HB, moq_5 HB, moq_6 HB, moq_7 HB, moq_8 HB, moq_9 HB, moq_10 HB, show ¬ (0 : Int32) < 0 by decide, show ¬ (5 : Int32) < 0 by decide, show ¬ (6 : Int32) < 0 by decide, Nat.zero_add, Nat.le_refl, not_false_eq_true]
  have g : ∀ (h1 : AH) s t n, Fr' h h1 (mS a) → mS a t → Fr' h (cpI h1 s 0 t 0 n) (mS a) := fun h1 s t n f ht => f.trans (Fr'.cpI ht)
  refine k _ (g _ _ _ _ (g _ _ _ _ (g _ _ _ _ (g _ _ _ _ (g _ _ _ _ (Fr'.sI ⟨by omega, by omega⟩) ⟨by omega, by omega⟩) ⟨by omega, by omega⟩) ⟨by omega, by omega⟩) ⟨by omega, by omega⟩) ⟨by omega, by omega⟩) ?_ (fun j hj => ⟨?_, ?_, ?_⟩) (fun j hj => ⟨?_, ?_⟩)
  all_goals simp only [hI_cp0, hI_sI]
  all_goals grind
theorem sp_begin {d : Nat} {h : AH} {Q : Option Value → AH → Prop} (hd : 6 ≤ d) (a b : Nat) (HA : MomAt h a) (HB : HillAt h b) (dab : a + 6 ≤ b ∨ b + 6 ≤ a) (k : ∀ h', Fr' h h' (mS a) → hI h' a 0 = 0 → (∀ j, j < 5 → hI h' (a + 1) j = hI h (b + 1) j ∧ hI h' (a + 2) j = hI h (b + 2) j ∧ hI h' (a + 3) j = 0) → (∀ j, j < 6 → hI h' (a + 4) j = hI h (b + 3) j ∧ hI h' (a + 5) j = -1) → Q none h') : Calls d nX4_begin [.ref a, .ref b] h (hN h) (hU h) Q := by
  obtain ⟨e, rfl⟩ : ∃ e, d = e + 1 := ⟨d - 1, by omega⟩
  refine wX4_begin (by omega) a b ?_
  simp only [rt_i, rt_b0, rt_b1, rt_v, rt_l, rt_o, rt_a, rV_none, rI_some, rL_some, rR_some, rT_some, hS_sI, hS_sL, hS_sR, hS_cpI, hR_sI, hR_sL, hR_cpI, hL_sI, hL_sR, hL_cpI, hI_sL, hI_sR, hN_sI, hN_sL, hN_sR, hN_cpI, hU_sI, hU_sL, hU_sR, hU_cpI, tn0, tn1, tn2, tn3, tn4, tn5, tn6, tn7, tn8, tn9, tn10, tn11, tn12, tn13, tn14, tn15, tn16, tn17, tn18, tn19, tn20, tn21, tn22, tn23, tn24, tn25, tn26, tn27, tn28, tn29, tn30, tn31, tn32, tn33, tn34, tn35, tn36, tn37, tn38, tn39, tn40, tn41, tn42, tn43, tn44, tn45, tn46, tn47, tn48, tn49, tn50, tn51, tn52, tn53, tn54, tn55, tn56, tn57, tn58, tn59, tn60, lH_eq, true_and, moq_0 HA, moq_1 HA, moq_2 HA, moq_3 HA, moq_4 HA, moq_5 HA, moq_6 HA, moq_7 HA, moq_8 HA, moq_9 HA, moq_10 HA, hiq_0 HB, hiq_1 HB, hiq_2 HB, hiq_3 HB, hiq_4 HB, hiq_5 HB, hiq_6 HB, hiq_7 HB, hiq_8 HB, hiq_9 HB, hiq_10 HB, show ¬ (0 : Int32) < 0 by decide, show ¬ (5 : Int32) < 0 by decide, show ¬ (6 : Int32) < 0 by decide, Nat.zero_add, Nat.le_refl, not_false_eq_true]
  have g : ∀ (h1 : AH) s t n, Fr' h h1 (mS a) → mS a t → Fr' h (cpI h1 s 0 t 0 n) (mS a) := fun h1 s t n f ht => f.trans (Fr'.cpI ht)
  have f0 := g _ (b + 2) (a + 2) 5 (g _ (b + 1) (a + 1) 5 (Fr'.sI (h := h) (a := a) (i := 0) (x := 0) (S := mS a) ⟨by omega, by omega⟩) ⟨by omega, by omega⟩) ⟨by omega, by omega⟩
  refine sp_fill (by omega) (a + 3) 5 0 (moq_8 HA) (by decide) (fun h1 f1 q1 => ?_)
  have f2 := f0.trans (f1.mono (T := mS a) (fun x z => ⟨by omega, by omega⟩))
  simp only [rt_i, rt_b0, rt_b1, rt_v, rt_l, rt_o, rt_a, rV_none, rI_some, rL_some, rR_some, rT_some, hS_sI, hS_sL, hS_sR, hS_cpI, hR_sI, hR_sL, hR_cpI, hL_sI, hL_sR, hL_cpI, hI_sL, hI_sR, hN_sI, hN_sL, hN_sR, hN_cpI, hU_sI, hU_sL, hU_sR, hU_cpI, f2.1, f2.2.1, tn0, tn1, tn2, tn3, tn4, tn5, tn6, tn7, tn8, tn9, tn10, tn11, tn12, tn13, tn14, tn15, tn16, tn17, tn18, tn19, tn20, tn21, tn22, tn23, tn24, tn25, tn26, tn27, tn28, tn29, tn30, tn31, tn32, tn33, tn34, tn35, tn36, tn37, tn38, tn39, tn40, tn41, tn42, tn43, tn44, tn45, tn46, tn47, tn48, tn49, tn50, tn51, tn52, tn53, tn54, tn55, tn56, tn57, tn58, tn59, tn60, lH_eq, true_and, moq_0 HA, moq_1 HA, moq_2 HA, moq_3 HA, moq_4 HA, moq_5 HA, moq_6 HA, moq_7 HA, moq_8 HA, moq_9 HA, moq_10 HA, hiq_0 HB, hiq_1 HB, hiq_2 HB, hiq_3 HB, hiq_4 HB, hiq_5 HB, hiq_6 HB, hiq_7 HB, hiq_8 HB, hiq_9 HB, hiq_10 HB, show ¬ (0 : Int32) < 0 by decide, show ¬ (5 : Int32) < 0 by decide, show ¬ (6 : Int32) < 0 by decide, Nat.zero_add, Nat.le_refl, not_false_eq_true]
  have f3 := g h1 (b + 3) (a + 4) 6 f2 ⟨by omega, by omega⟩
  refine sp_fill (by omega) (a + 5) 6 (-1) (by rw [f3.1]; exact moq_10 HA) (by decide) (fun h4 f4 q4 => ?_)
  have f5 := f3.trans (f4.mono (T := mS a) (fun x z => ⟨by omega, by omega⟩))
  rw [rV_none]
  have e0 := fun x (hx : ¬ x = a + 3) j => f1.2.2.2.2.1 x hx j
  have e4 := fun x (hx : ¬ x = a + 5) j => f4.2.2.2.2.1 x hx j
  refine ⟨f5.2.2.1, f5.2.2.2.1, k h4 f5 ?_ (fun j hj => ⟨?_, ?_, ?_⟩) (fun j hj => ⟨?_, ?_⟩)⟩
  · rw [e4 a (by omega), hI_cp0, if_neg (by omega), e0 a (by omega)]
    simp only [hI_cp0, hI_sI]
    grind
  · rw [e4 (a + 1) (by omega), hI_cp0, if_neg (by omega), e0 (a + 1) (by omega)]
    simp only [hI_cp0, hI_sI]
    grind
  · rw [e4 (a + 2) (by omega), hI_cp0, if_neg (by omega), e0 (a + 2) (by omega)]
    simp only [hI_cp0, hI_sI]
    grind
  · rw [e4 (a + 3) (by omega), hI_cp0, if_neg (by omega), q1, if_pos hj]
  · rw [e4 (a + 4) (by omega), hI_cp0, if_pos rfl, if_pos hj, e0 (b + 3) (by omega)]
    simp only [hI_cp0, hI_sI]
    grind
  · rw [q4, if_pos hj]
theorem MomIs.of {h h' : AH} {a b nr nw : Nat} {M : Nat → Nat → Int32} (HB : MomIs h b nr nw M) (hr : nr ≤ 5) (hw : nw ≤ 6) (HA : MomAt h' a) (q0 : hI h' a 0 = hI h b 0) (q1 : ∀ j, j < 5 → hI h' (a + 1) j = hI h (b + 1) j ∧ hI h' (a + 2) j = hI h (b + 2) j ∧ hI h' (a + 3) j = hI h (b + 3) j) (q2 : ∀ j, j < 6 → hI h' (a + 4) j = hI h (b + 4) j ∧ hI h' (a + 5) j = hI h (b + 5) j) : MomIs h' a nr nw M := by
  obtain ⟨H0, ⟨H1, H2, H3⟩, H4⟩ := HB
  refine ⟨HA, ⟨?_, fun j hj => ?_, fun j hj => ?_⟩, fun j hj h5 => ?_⟩
  · exact q0.trans H1
  · have := q1 j (by omega)
    have h2 := H2 j hj
    simp only [pic] at h2 ⊢
    rw [this.1, this.2.1, this.2.2]
    exact h2
  · have := q2 j (by omega)
    have h3 := H3 j hj
    simp only [pic] at h3 ⊢
    rw [this.1, this.2]
    exact h3
  · rw [(q1 j h5).2.2]
    exact H4 j hj h5
theorem MomIs.fr {h h' : AH} {a nr nw : Nat} {M : Nat → Nat → Int32} {S : Nat → Prop} (HB : MomIs h a nr nw M) (hr : nr ≤ 5) (hw : nw ≤ 6) (f : Fr' h h' S) (hs : ∀ b, a ≤ b → b ≤ a + 5 → ¬ S b) : MomIs h' a nr nw M := HB.of hr hw (HB.1.fr f) (f.2.2.2.2.1 a (hs _ (by omega) (by omega)) 0) (fun j hj => ⟨f.2.2.2.2.1 (a + 1) (hs _ (by omega) (by omega)) j, f.2.2.2.2.1 (a + 2) (hs _ (by omega) (by omega)) j, f.2.2.2.2.1 (a + 3) (hs _ (by omega) (by omega)) j⟩) (fun j hj => ⟨f.2.2.2.2.1 (a + 4) (hs _ (by omega) (by omega)) j, f.2.2.2.2.1 (a + 5) (hs _ (by omega) (by omega)) j⟩)
theorem HilIs.fr {h h' : AH} {a nr nw : Nat} {A : Nat → Nat → Int32} {S : Nat → Prop} (H : HilIs h a nr nw A) (f : Fr' h h' S) (hs : ∀ b, a ≤ b → b ≤ a + 5 → ¬ S b) : HilIs h' a nr nw A := by
  have g : ∀ b, a ≤ b → b ≤ a + 5 → hI h' b = hI h b := fun b h1 h2 => funext (f.2.2.2.2.1 b (hs b h1 h2))
  obtain ⟨H0, H1, H2, H3, H4, H5, H6, H7, H8⟩ := H
  refine ⟨H0.fr f, ?_, ?_, H3, H4, ?_, ?_, ?_, H8⟩
  · rw [g a (by omega) (by omega)]; exact H1
  · rw [g a (by omega) (by omega)]; exact H2
  · simp only [eqA, pic, Nat.add_zero, g a (by omega) (by omega), g (a + 4) (by omega) (by omega), g (a + 5) (by omega) (by omega)] at H5 ⊢
    exact H5
  · rw [g (a + 1) (by omega) (by omega), g (a + 2) (by omega) (by omega)]; exact H6
  · rw [g (a + 3) (by omega) (by omega)]; exact H7
