/-! which rules could have ruled; where to look; reference -/
theorem QK.of_h {h : AH} {m nr nw : Nat} {A M : PC} {R : Option (List (List (Nat × Nat) × List (Nat × Nat)))} (H : QK h m nr nw A M R) (hz : 0 < A 0 0) : hilOk nr nw A ∧ momOk 999 nr nw M := by
  rcases H.2.2.2.2 with h1 | h1
  · rw [h1.1] at hz
    exact absurd hz (by decide)
  · exact h1
noncomputable def aRuled (nr nw : Nat) (A : PC) (cls : List (List (List (Nat × Nat) × List (Nat × Nat)))) (ns : List (Nat × Nat × Int32)) (w : Int32) : Int32 := if 0 < A 0 0 ∧ (0 ≤ w ∧ w ≤ 1) then (if w = 0 then nI (ctF (ftB cls A nr nw ns) (cls.length + 1)) else frF (ftB cls A nr nw ns) (cls.length + 1)) else -3
theorem ru_loop {d E1 E2 : Nat} {Q : Option Value → AH → Prop} {h0 : AH} (hd : 12 ≤ d) (m nr nw : Nat) (A M : PC) (R : Option (List (List (Nat × Nat) × List (Nat × Nat)))) (cls : List (List (List (Nat × Nat) × List (Nat × Nat)))) (ns : List (Nat × Nat × Int32)) (wh : Int32) (hA : hilOk nr nw A) (H0 : QK h0 m nr nw A M R) (L0 : QL h0 m nr nw cls ns) (e1 : hN h0 = E1) (e2 : hU h0 = E2) (k : ∀ h', Rs h0 h' m → M5 h' m → Q (some (.int (if wh = 0 then nI (ctF (ftB cls A nr nw ns) (cls.length + 1)) else frF (ftB cls A nr nw ns) (cls.length + 1)))) h') : ∀ (n i : Nat) (h : AH), i + n = cls.length + 1 → Rs h0 h m → M5 h m → Reach d nX12_ruled (32, [.ref m, .int wh, .int (nI (ctF (ftB cls A nr nw ns) i)), .int (frF (ftB cls A nr nw ns) i), .int (cI i)], []) h E1 E2 Q
  | 0, i, h, hi, S, h5 => by
    have : i = cls.length + 1 := by omega
    subst this
    have h6 := L0.2.1
    have HM := H0.1.1.fr S.1.1
    have kk := k h S h5
    have e3 := S.1.1
    refine wX12_ruled_32 (by omega) m wh _ _ _ ?_
    simp only [rt_i, rt_b0, rt_b1, rt_v, rt_l, rt_o, rt_a, rV_none, rI_some, rL_some, rR_some, rT_some, rt_bI, hIf_sL, hIf_sR, hS_sI, hS_sL, hS_sR, hS_cpI, hR_sI, hR_sL, hR_cpI, hL_sI, hL_sR, hL_cpI, hI_sL, hI_sR, hN_sI, hN_sL, hN_sR, hN_cpI, hU_sI, hU_sL, hU_sR, hU_cpI, tn0, tn1, tn2, tn3, tn4, tn5, tn6, tn7, tn8, tn9, tn10, tn11, tn12, tn13, tn14, tn15, tn16, tn17, tn18, tn19, tn20, tn21, tn22, tn23, tn24, tn25, tn26, tn27, tn28, tn29, tn30, tn31, tn32, tn33, tn34, tn35, tn36, tn37, tn38, tn39, tn40, tn41, tn42, tn43, tn44, tn45, tn46, tn47, tn48, tn49, tn50, tn51, tn52, tn53, tn54, tn55, tn56, tn57, tn58, tn59, tn60, lH_eq, true_and, and_true, mdq_0 HM, (L0.rs S).1, cI_ge (show cls.length + 1 < 1000 by omega) (show cls.length < 1000 by omega)]
    refine ⟨fun _ => ⟨fun z => ?_, fun z => ?_⟩, fun z => absurd (Nat.lt_succ_self _) z⟩
    · rw [if_neg z] at kk
      exact ⟨e3.2.2.1.trans e1, e3.2.2.2.1.trans e2, kk⟩
    · rw [if_pos z] at kk
      exact ⟨e3.2.2.1.trans e1, e3.2.2.2.1.trans e2, kk⟩
  | n + 1, i, h, hi, S, h5 => by
    have h6 := L0.2.1
    have HM := H0.1.1.fr S.1.1
    have cl := ctF_le (ftB cls A nr nw ns) i
    refine wX12_ruled_32 (by omega) m wh _ _ _ ?_
    simp only [rt_i, rt_b0, rt_b1, rt_v, rt_l, rt_o, rt_a, rV_none, rI_some, rL_some, rR_some, rT_some, rt_bI, hIf_sL, hIf_sR, hS_sI, hS_sL, hS_sR, hS_cpI, hR_sI, hR_sL, hR_cpI, hL_sI, hL_sR, hL_cpI, hI_sL, hI_sR, hN_sI, hN_sL, hN_sR, hN_cpI, hU_sI, hU_sL, hU_sR, hU_cpI, tn0, tn1, tn2, tn3, tn4, tn5, tn6, tn7, tn8, tn9, tn10, tn11, tn12, tn13, tn14, tn15, tn16, tn17, tn18, tn19, tn20, tn21, tn22, tn23, tn24, tn25, tn26, tn27, tn28, tn29, tn30, tn31, tn32, tn33, tn34, tn35, tn36, tn37, tn38, tn39, tn40, tn41, tn42, tn43, tn44, tn45, tn46, tn47, tn48, tn49, tn50, tn51, tn52, tn53, tn54, tn55, tn56, tn57, tn58, tn59, tn60, lH_eq, true_and, and_true, mdq_0 HM, (L0.rs S).1, cI_ge (show i < 1000 by omega) (show cls.length < 1000 by omega), cI_up]
    refine ⟨fun z => absurd z (by omega), fun _ => ?_⟩
    refine m_couldRule (h0 := h0) (by omega) m nr nw i A M R cls ns hA H0 L0 (by omega) S h5 (fun h' S' M' _ _ => ?_)
    have ih := ru_loop hd m nr nw A M R cls ns wh hA H0 L0 e1 e2 k n (i + 1) h' (by omega) S' M'
    have hz : (nI (ctF (ftB cls A nr nw ns) i) = 0) = (ctF (ftB cls A nr nw ns) i = 0) := nI_eq_iff (b := 0) (by omega) (by decide)
    simp only [rI_some, bI0, hz, nI_1]
    refine ⟨fun z => ?_, fun z => ?_⟩
    · simp only [ctF, frF, if_neg z, if_neg (fun y : ftB cls A nr nw ns i = true ∧ ctF (ftB cls A nr nw ns) i = 0 => z y.1)] at ih
      exact ih
    · have z := Decidable.not_not.mp z
      refine ⟨fun y => ?_, fun y => ?_⟩
      · simp only [ctF, frF, if_pos z, if_neg (fun x : ftB cls A nr nw ns i = true ∧ ctF (ftB cls A nr nw ns) i = 0 => y x.2)] at ih
        exact ih
      · simp only [ctF, frF, if_pos z, if_pos (show ftB cls A nr nw ns i = true ∧ ctF (ftB cls A nr nw ns) i = 0 from ⟨z, y⟩)] at ih
        exact ih
theorem m_ruled {d : Nat} {h : AH} {Q : Option Value → AH → Prop} (hd : 13 ≤ d) (m nr nw : Nat) (A M : PC) (R : Option (List (List (Nat × Nat) × List (Nat × Nat)))) (cls : List (List (List (Nat × Nat) × List (Nat × Nat)))) (ns : List (Nat × Nat × Int32)) (w : Int32) (H : QK h m nr nw A M R) (L0 : QL h m nr nw cls ns) (kk : ∀ h', Rs h h' m → M5 h' m → Q (some (.int (aRuled nr nw A cls ns w))) h') (kk0 : aRuled nr nw A cls ns w = -3 → Q (some (.int (-3))) h) : Calls d nX12_ruled [.ref m, .int w] h (hN h) (hU h) Q := by
  obtain ⟨e, rfl⟩ : ∃ e, d = e + 1 := ⟨d - 1, by omega⟩
  have HQ := H
  obtain ⟨HC, H5, hr5, hw6, hh⟩ := H
  have e0 : hI h (m + 1) 0 = A 0 0 := HC.2.1.2.2.1.1
  refine wX12_ruled (by omega) m w ?_
  simp only [rt_i, rt_b0, rt_b1, rt_v, rt_l, rt_o, rt_a, rV_none, rI_some, rL_some, rR_some, rT_some, rt_bI, hIf_sL, hIf_sR, hS_sI, hS_sL, hS_sR, hS_cpI, hR_sI, hR_sL, hR_cpI, hL_sI, hL_sR, hL_cpI, hI_sL, hI_sR, hN_sI, hN_sL, hN_sR, hN_cpI, hU_sI, hU_sL, hU_sR, hU_cpI, tn0, tn1, tn2, tn3, tn4, tn5, tn6, tn7, tn8, tn9, tn10, tn11, tn12, tn13, tn14, tn15, tn16, tn17, tn18, tn19, tn20, tn21, tn22, tn23, tn24, tn25, tn26, tn27, tn28, tn29, tn30, tn31, tn32, tn33, tn34, tn35, tn36, tn37, tn38, tn39, tn40, tn41, tn42, tn43, tn44, tn45, tn46, tn47, tn48, tn49, tn50, tn51, tn52, tn53, tn54, tn55, tn56, tn57, tn58, tn59, tn60, lH_eq, true_and, and_true, mdq_0 HC.1]
  refine m_isHill (by omega) m HC.1 ?_
  simp only [rI_some, bI0, mdq_0 HC.1, true_and, e0]
  refine ⟨fun z => kk0 (by unfold aRuled; rw [if_neg (fun y => z y.1)]), fun z => ?_⟩
  refine m_in32 (by omega) w 0 1 rfl rfl rfl ?_
  simp only [rI_some, bI0, mdq_0 HC.1, true_and]
  refine ⟨fun y => ?_, fun y => kk0 (by unfold aRuled; rw [if_neg (fun x => y x.2)])⟩
  have z := Decidable.not_not.mp z
  have y := Decidable.not_not.mp y
  unfold aRuled at kk
  rw [if_pos ⟨z, y⟩] at kk
  have hok := HQ.of_h z
  refine QK.keep (by omega) HQ (fun h1 S1 m1 H1 => ?_)
  rw [rV_none]
  have := ru_loop (d := e) (h0 := h) (by omega) m nr nw A M R cls ns w hok.1 HQ L0 rfl rfl kk (cls.length + 1) 0 h1 (by omega) S1 (fun j hj => by rw [m1]; exact H5 j hj)
  rw [cI_0] at this
  exact this
theorem lo61 {d E1 E2 : Nat} {Q : Option Value → AH → Prop} (hd : 4 ≤ d) (m n b : Nat) (wh v4 : Int32) (hn : n ≤ 60) (hb : b < 7) : ∀ (l i : Nat) (h : AH), i + l = 6 → ModAt h m → (∀ h', Fr' h h' (fun c => c = m + 41) → (∀ j, hI h' (m + 41) j = if 6 * b + i ≤ j ∧ j < 6 * b + 6 then hI h (m + 40) (6 * n + (j - 6 * b)) else hI h (m + 41) j) → Reach d nX12_look (40, [.ref m, .int (nI n), .int wh, .int (nI (b + 1)), .int (v4 + 1), .float 0], []) h' E1 E2 Q) → Reach d nX12_look (61, [.ref m, .int (nI n), .int wh, .int (nI b), .int v4, .int (nI i)], []) h E1 E2 Q
  | 0, i, h, hi, H, k => by
    have : i = 6 := by omega
    subst this
    refine wX12_look_61 hd m (nI n) wh (nI b) v4 (nI 6) ?_
    have h5 : ((6 : Int32) ≤ nI 6) = (6 ≤ 6) := nI_le_iff (a := 6) (by omega) (by omega)
    simp only [rt_i, rt_b0, rt_b1, rt_v, rt_l, rt_o, rt_a, rV_none, rI_some, rL_some, rR_some, rT_some, rt_bI, hIf_sL, hIf_sR, hS_sI, hS_sL, hS_sR, hS_cpI, hR_sI, hR_sL, hR_cpI, hL_sI, hL_sR, hL_cpI, hI_sL, hI_sR, hN_sI, hN_sL, hN_sR, hN_cpI, hU_sI, hU_sL, hU_sR, hU_cpI, tn0, tn1, tn2, tn3, tn4, tn5, tn6, tn7, tn8, tn9, tn10, tn11, tn12, tn13, tn14, tn15, tn16, tn17, tn18, tn19, tn20, tn21, tn22, tn23, tn24, tn25, tn26, tn27, tn28, tn29, tn30, tn31, tn32, tn33, tn34, tn35, tn36, tn37, tn38, tn39, tn40, tn41, tn42, tn43, tn44, tn45, tn46, tn47, tn48, tn49, tn50, tn51, tn52, tn53, tn54, tn55, tn56, tn57, tn58, tn59, tn60, lH_eq, true_and, and_true, h5, nI_1]
    exact ⟨fun _ => k h (Fr'.refl _ _) (fun j => by rw [if_neg (by omega)]), fun z => absurd (Nat.le_refl 6) z⟩
  | l + 1, i, h, hi, H, k => by
    refine wX12_look_61 hd m (nI n) wh (nI b) v4 (nI i) ?_
    have h5 : ((6 : Int32) ≤ nI i) = (6 ≤ i) := nI_le_iff (a := 6) (by omega) (by omega)
    have i1 : 6 * nI n + nI i = nI (6 * n + i) := by rw [← nI_add, ← pk_mul]; rfl
    have i2 : 6 * nI b + nI i = nI (6 * b + i) := by rw [← nI_add, ← pk_mul]; rfl
    simp only [rt_i, rt_b0, rt_b1, rt_v, rt_l, rt_o, rt_a, rV_none, rI_some, rL_some, rR_some, rT_some, rt_bI, hIf_sL, hIf_sR, hS_sI, hS_sL, hS_sR, hS_cpI, hR_sI, hR_sL, hR_cpI, hL_sI, hL_sR, hL_cpI, hI_sL, hI_sR, hN_sI, hN_sL, hN_sR, hN_cpI, hU_sI, hU_sL, hU_sR, hU_cpI, tn0, tn1, tn2, tn3, tn4, tn5, tn6, tn7, tn8, tn9, tn10, tn11, tn12, tn13, tn14, tn15, tn16, tn17, tn18, tn19, tn20, tn21, tn22, tn23, tn24, tn25, tn26, tn27, tn28, tn29, tn30, tn31, tn32, tn33, tn34, tn35, tn36, tn37, tn38, tn39, tn40, tn41, tn42, tn43, tn44, tn45, tn46, tn47, tn48, tn49, tn50, tn51, tn52, tn53, tn54, tn55, tn56, tn57, tn58, tn59, tn60, lH_eq, true_and, and_true, mdq_0 H, mdq_53 H, mds_53 H, mdq_54 H, mds_54 H, i1, i2, vp_in_nI (show 6 * n + i < 366 by omega) (show 366 < 2 ^ 31 by omega), nI_clamp (show 6 * n + i < 2 ^ 31 by omega), vp_in_nI (show 6 * b + i < 42 by omega) (show 42 < 2 ^ 31 by omega), nI_clamp (show 6 * b + i < 2 ^ 31 by omega), h5, nI_1]
    refine ⟨fun z => absurd z (by omega), fun _ => ?_⟩
    refine lo61 hd m n b wh v4 hn hb l (i + 1) _ (by omega) (H.fr (Fr'.sI (S := fun c => c = m + 41) rfl)) (fun h' f q => k h' ((Fr'.sI (S := fun c => c = m + 41) rfl).trans f) (fun j => ?_))
    rw [q j, hI_sI, if_neg (show m + 40 ≠ m + 41 by omega), hI_sI, if_pos (rfl : m + 41 = m + 41)]
    by_cases c : 6 * b + (i + 1) ≤ j ∧ j < 6 * b + 6
    · rw [if_pos c, if_pos (by omega)]
    · rw [if_neg c]
      by_cases c2 : j = 6 * b + i
      · rw [if_pos c2, if_pos (by omega), c2, show 6 * b + i - 6 * b = i by omega]
      · rw [if_neg c2, if_neg (by omega)]
theorem mma17 {d E1 E2 : Nat} {Q : Option Value → AH → Prop} {h : AH} (hd : 4 ≤ d) (m w b i : Nat) (g : Nat → Int32) (H : ModAt h m) (hb : b ≤ 7) (hw : w < 6) (hi : i < b) (hg : ∀ k, k < b → hI h (m + 41) (6 * k + w) = g k) (v3 : Nat) (hv3 : v3 ≤ 7) (k : Reach d nX12_mostAlike (5, [.ref m, .int (nI w), .int (nI b), .int (nI (if v3 < alF g i b then alF g i b else v3)), .int (nI (i + 1)), .float 0, .float 0], []) h E1 E2 Q) : ∀ n j : Nat, j + n = b → Reach d nX12_mostAlike (17, [.ref m, .int (nI w), .int (nI b), .int (nI v3), .int (nI i), .int (nI (alF g i j)), .int (nI j)], []) h E1 E2 Q
  | 0, j, hj => by
    have : j = b := by omega
    subst this
    have hal := alF_le g i j
    refine wX12_mostAlike_17 hd m (nI w) (nI j) (nI v3) (nI i) _ (nI j) ?_
    simp only [rt_i, rt_b0, rt_b1, rt_v, rt_l, rt_o, rt_a, rV_none, rI_some, rL_some, rR_some, rT_some, rt_bI, hIf_sL, hIf_sR, hS_sI, hS_sL, hS_sR, hS_cpI, hR_sI, hR_sL, hR_cpI, hL_sI, hL_sR, hL_cpI, hI_sL, hI_sR, hN_sI, hN_sL, hN_sR, hN_cpI, hU_sI, hU_sL, hU_sR, hU_cpI, tn0, tn1, tn2, tn3, tn4, tn5, tn6, tn7, tn8, tn9, tn10, tn11, tn12, tn13, tn14, tn15, tn16, tn17, tn18, tn19, tn20, tn21, tn22, tn23, tn24, tn25, tn26, tn27, tn28, tn29, tn30, tn31, tn32, tn33, tn34, tn35, tn36, tn37, tn38, tn39, tn40, tn41, tn42, tn43, tn44, tn45, tn46, tn47, tn48, tn49, tn50, tn51, tn52, tn53, tn54, tn55, tn56, tn57, tn58, tn59, tn60, lH_eq, true_and, and_true, nI_le_iff (show j < 2 ^ 31 by omega) (show j < 2 ^ 31 by omega), nI_le_iff (show alF g i j < 2 ^ 31 by omega) (show v3 < 2 ^ 31 by omega), nI_1]
    refine ⟨fun _ => ⟨fun z => ?_, fun z => ?_⟩, fun z => absurd (Nat.le_refl _) z⟩
    · rwa [if_neg (by omega)] at k
    · rwa [if_pos (by omega)] at k
  | n + 1, j, hj => by
    have ih := mma17 hd m w b i g H hb hw hi hg v3 hv3 k n (j + 1) (by omega)
    have i1 : 6 * nI j + nI w = nI (6 * j + w) := by rw [← nI_add, ← pk_mul]; rfl
    have i2 : 6 * nI i + nI w = nI (6 * i + w) := by rw [← nI_add, ← pk_mul]; rfl
    refine wX12_mostAlike_17 hd m (nI w) (nI b) (nI v3) (nI i) _ (nI j) ?_
    simp only [rt_i, rt_b0, rt_b1, rt_v, rt_l, rt_o, rt_a, rV_none, rI_some, rL_some, rR_some, rT_some, rt_bI, hIf_sL, hIf_sR, hS_sI, hS_sL, hS_sR, hS_cpI, hR_sI, hR_sL, hR_cpI, hL_sI, hL_sR, hL_cpI, hI_sL, hI_sR, hN_sI, hN_sL, hN_sR, hN_cpI, hU_sI, hU_sL, hU_sR, hU_cpI, tn0, tn1, tn2, tn3, tn4, tn5, tn6, tn7, tn8, tn9, tn10, tn11, tn12, tn13, tn14, tn15, tn16, tn17, tn18, tn19, tn20, tn21, tn22, tn23, tn24, tn25, tn26, tn27, tn28, tn29, tn30, tn31, tn32, tn33, tn34, tn35, tn36, tn37, tn38, tn39, tn40, tn41, tn42, tn43, tn44, tn45, tn46, tn47, tn48, tn49, tn50, tn51, tn52, tn53, tn54, tn55, tn56, tn57, tn58, tn59, tn60, lH_eq, true_and, and_true, mdq_0 H, mdq_54 H, mds_54 H, nI_le_iff (show b < 2 ^ 31 by omega) (show j < 2 ^ 31 by omega), i1, i2, vp_in_nI (show 6 * j + w < 42 by omega) (show 42 < 2 ^ 31 by omega), nI_clamp (show 6 * j + w < 2 ^ 31 by omega), vp_in_nI (show 6 * i + w < 42 by omega) (show 42 < 2 ^ 31 by omega), nI_clamp (show 6 * i + w < 2 ^ 31 by omega), hg j (by omega), hg i hi, nI_1, Int32.add_zero]
    simp only [alF] at ih
    refine ⟨fun z => absurd z (by omega), fun _ => ⟨fun z => ?_, fun z => ?_⟩⟩
    · rwa [if_neg z] at ih
    · rwa [if_pos z] at ih
theorem mma5 {d E1 E2 : Nat} {Q : Option Value → AH → Prop} {h : AH} (hd : 4 ≤ d) (m w b : Nat) (g : Nat → Int32) (H : ModAt h m) (hb : b ≤ 7) (hw : w < 6) (hg : ∀ k, k < b → hI h (m + 41) (6 * k + w) = g k) (e1 : hN h = E1) (e2 : hU h = E2) (k : Q (some (.int (nI (maF g b b)))) h) : ∀ n i : Nat, i + n = b → Reach d nX12_mostAlike (5, [.ref m, .int (nI w), .int (nI b), .int (nI (maF g b i)), .int (nI i), .float 0, .float 0], []) h E1 E2 Q
  | 0, i, hi => by
    have : i = b := by omega
    subst this
    refine wX12_mostAlike_5 hd m (nI w) (nI i) _ (nI i) ?_
    simp only [rt_i, rt_b0, rt_b1, rt_v, rt_l, rt_o, rt_a, rV_none, rI_some, rL_some, rR_some, rT_some, rt_bI, hIf_sL, hIf_sR, hS_sI, hS_sL, hS_sR, hS_cpI, hR_sI, hR_sL, hR_cpI, hL_sI, hL_sR, hL_cpI, hI_sL, hI_sR, hN_sI, hN_sL, hN_sR, hN_cpI, hU_sI, hU_sL, hU_sR, hU_cpI, tn0, tn1, tn2, tn3, tn4, tn5, tn6, tn7, tn8, tn9, tn10, tn11, tn12, tn13, tn14, tn15, tn16, tn17, tn18, tn19, tn20, tn21, tn22, tn23, tn24, tn25, tn26, tn27, tn28, tn29, tn30, tn31, tn32, tn33, tn34, tn35, tn36, tn37, tn38, tn39, tn40, tn41, tn42, tn43, tn44, tn45, tn46, tn47, tn48, tn49, tn50, tn51, tn52, tn53, tn54, tn55, tn56, tn57, tn58, tn59, tn60, lH_eq, true_and, and_true, nI_le_iff (show i < 2 ^ 31 by omega) (show i < 2 ^ 31 by omega)]
    exact ⟨fun _ => ⟨e1, e2, k⟩, fun z => absurd (Nat.le_refl _) z⟩
  | n + 1, i, hi => by
    have ih := mma5 hd m w b g H hb hw hg e1 e2 k n (i + 1) (by omega)
    have hm := maF_le g b i
    refine wX12_mostAlike_5 hd m (nI w) (nI b) _ (nI i) ?_
    simp only [rt_i, rt_b0, rt_b1, rt_v, rt_l, rt_o, rt_a, rV_none, rI_some, rL_some, rR_some, rT_some, rt_bI, hIf_sL, hIf_sR, hS_sI, hS_sL, hS_sR, hS_cpI, hR_sI, hR_sL, hR_cpI, hL_sI, hL_sR, hL_cpI, hI_sL, hI_sR, hN_sI, hN_sL, hN_sR, hN_cpI, hU_sI, hU_sL, hU_sR, hU_cpI, tn0, tn1, tn2, tn3, tn4, tn5, tn6, tn7, tn8, tn9, tn10, tn11, tn12, tn13, tn14, tn15, tn16, tn17, tn18, tn19, tn20, tn21, tn22, tn23, tn24, tn25, tn26, tn27, tn28, tn29, tn30, tn31, tn32, tn33, tn34, tn35, tn36, tn37, tn38, tn39, tn40, tn41, tn42, tn43, tn44, tn45, tn46, tn47, tn48, tn49, tn50, tn51, tn52, tn53, tn54, tn55, tn56, tn57, tn58, tn59, tn60, lH_eq, true_and, and_true, nI_le_iff (show b < 2 ^ 31 by omega) (show i < 2 ^ 31 by omega)]
    refine ⟨fun z => absurd z (by omega), fun _ => ?_⟩
    exact mma17 hd m w b i g H hb hw (by omega) hg (maF g b i) (by omega) ih b 0 (by omega)
theorem m_mostAlike {d : Nat} {h : AH} {Q : Option Value → AH → Prop} (hd : 5 ≤ d) (m w b : Nat) (g : Nat → Int32) (H : ModAt h m) (hb : b ≤ 7) (hw : w < 6) (hg : ∀ k, k < b → hI h (m + 41) (6 * k + w) = g k) (k : Q (some (.int (nI (maF g b b)))) h) : Calls d nX12_mostAlike [.ref m, .int (nI w), .int (nI b)] h (hN h) (hU h) Q := by
  obtain ⟨e, rfl⟩ : ∃ e, d = e + 1 := ⟨d - 1, by omega⟩
  exact wX12_mostAlike (by omega) m (nI w) (nI b) (mma5 (by omega) m w b g H hb hw hg rfl rfl k b 0 (by omega))
