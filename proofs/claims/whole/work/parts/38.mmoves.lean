/-! the reference's acts that can be taken back -/
theorem fr_same {h h1 : AH} {S : Nat → Prop} {a i : Nat} {x : Int32} (f : Fr' h h1 S) (e : ¬ S a → x = hI h a i) : Fr' h (sI h1 a i x) S := by
  refine ⟨f.1, f.2.1, f.2.2.1, f.2.2.2.1, fun b hb j => ?_, f.2.2.2.2.2⟩
  rw [hI_sI]
  by_cases c : b = a
  · subst c
    rw [if_pos rfl]
    by_cases c2 : j = i
    · subst c2
      rw [if_pos rfl]; exact e hb
    · rw [if_neg c2]; exact f.2.2.2.2.1 b hb j
  · rw [if_neg c]; exact f.2.2.2.2.1 b hb j
theorem m_movesS {d : Nat} {h : AH} {Q : Option Value → AH → Prop} (hd : 5 ≤ d) (m p : Nat) (v : Int32) (H : ModAt h m) (hp : p < 560) (h47 : hI h m 47 = 0) (h46 : hI h m 46 = nI p) (k : ∀ h', Fr' h h' (fun b => b = m ∨ b = m + 33) → hI h' m 46 = nI (p + 1) → (∀ j, j ≠ 46 → hI h' m j = hI h m j) → (∀ j, hI h' (m + 33) j = if j = p then v else hI h (m + 33) j) → Q (some (.int v)) h') : Calls d nX12_moves [.ref m, .int v] h (hN h) (hU h) Q := by
  obtain ⟨e, rfl⟩ : ∃ e, d = e + 1 := ⟨d - 1, by omega⟩
  refine wX12_moves (by omega) m v ?_
  simp only [rt_i, rt_b0, rt_b1, rt_v, rt_l, rt_o, rt_a, rV_none, rI_some, rL_some, rR_some, rT_some, rt_bI, hIf_sL, hIf_sR, hS_sI, hS_sL, hS_sR, hS_cpI, hR_sI, hR_sL, hR_cpI, hL_sI, hL_sR, hL_cpI, hI_sL, hI_sR, hN_sI, hN_sL, hN_sR, hN_cpI, hU_sI, hU_sL, hU_sR, hU_cpI, tn0, tn1, tn2, tn3, tn4, tn5, tn6, tn7, tn8, tn9, tn10, tn11, tn12, tn13, tn14, tn15, tn16, tn17, tn18, tn19, tn20, tn21, tn22, tn23, tn24, tn25, tn26, tn27, tn28, tn29, tn30, tn31, tn32, tn33, tn34, tn35, tn36, tn37, tn38, tn39, tn40, tn41, tn42, tn43, tn44, tn45, tn46, tn47, tn48, tn49, tn50, tn51, tn52, tn53, tn54, tn55, tn56, tn57, tn58, tn59, tn60, lH_eq, true_and, and_true, mdq_0 H, mdq_43 H, mds_43 H, h47, h46, vp_in_nI (show p < 560 by omega) (show 560 < 2 ^ 31 by omega), nI_clamp (show p < 2 ^ 31 by omega), hI_sI, show (m = m + 33) = False by simp, if_false, nI_1]
  refine ⟨fun _ => k _ ((Fr'.sI (Or.inr rfl)).trans (Fr'.sI (Or.inl rfl))) ?_ (fun j hj => ?_) (fun j => ?_), fun z => absurd (by trivial) z⟩
  · simp only [hI_sI, if_true]
  · simp only [hI_sI, if_true, if_neg hj, show (m = m + 33) = False by simp, if_false]
  · simp only [hI_sI, if_true, show (m + 33 = m) = False by simp, if_false]
theorem m_movesL {d : Nat} {h : AH} {Q : Option Value → AH → Prop} (hd : 5 ≤ d) (m p : Nat) (v : Int32) (H : ModAt h m) (hp : p < 560) (h47 : hI h m 47 = 1) (h46 : hI h m 46 = nI p) (k : ∀ h', Fr' h h' (fun b => b = m) → hI h' m 46 = nI (p + 1) → (∀ j, j ≠ 46 → hI h' m j = hI h m j) → Q (some (.int (hI h (m + 33) p))) h') : Calls d nX12_moves [.ref m, .int v] h (hN h) (hU h) Q := by
  obtain ⟨e, rfl⟩ : ∃ e, d = e + 1 := ⟨d - 1, by omega⟩
  refine wX12_moves (by omega) m v ?_
  simp only [rt_i, rt_b0, rt_b1, rt_v, rt_l, rt_o, rt_a, rV_none, rI_some, rL_some, rR_some, rT_some, rt_bI, hIf_sL, hIf_sR, hS_sI, hS_sL, hS_sR, hS_cpI, hR_sI, hR_sL, hR_cpI, hL_sI, hL_sR, hL_cpI, hI_sL, hI_sR, hN_sI, hN_sL, hN_sR, hN_cpI, hU_sI, hU_sL, hU_sR, hU_cpI, tn0, tn1, tn2, tn3, tn4, tn5, tn6, tn7, tn8, tn9, tn10, tn11, tn12, tn13, tn14, tn15, tn16, tn17, tn18, tn19, tn20, tn21, tn22, tn23, tn24, tn25, tn26, tn27, tn28, tn29, tn30, tn31, tn32, tn33, tn34, tn35, tn36, tn37, tn38, tn39, tn40, tn41, tn42, tn43, tn44, tn45, tn46, tn47, tn48, tn49, tn50, tn51, tn52, tn53, tn54, tn55, tn56, tn57, tn58, tn59, tn60, lH_eq, true_and, and_true, mdq_0 H, mdq_43 H, mds_43 H, h47, h46, vp_in_nI (show p < 560 by omega) (show 560 < 2 ^ 31 by omega), nI_clamp (show p < 2 ^ 31 by omega), hI_sI, show (m = m + 33) = False by simp, if_false, nI_1]
  refine ⟨fun z => absurd z (by decide), fun _ => k _ ((fr_same (Fr'.refl _ _) (fun _ => rfl)).trans (Fr'.sI rfl)) ?_ (fun j hj => ?_)⟩
  · simp only [hI_sI, if_true]
  · simp only [hI_sI, if_true, if_neg hj, show (m = m + 33) = False by simp, if_false]
theorem mrs_loop {d E1 E2 : Nat} {Q : Option Value → AH → Prop} (hd : 5 ≤ d) (m r n0 o : Nat) (h0 : 1 ≤ r) (hr : r ≤ 6) (hn0 : n0 ≤ 6) (ho : o + n0 ≤ 560) : ∀ (n i : Nat) (h : AH), i + n = n0 → ModAt h m → hS h (m + r) = (1, n0) → hI h m 47 = 0 → hI h m 46 = nI (o + i) → hN h = E1 → hU h = E2 → (∀ h', Fr' h h' (fun b => b = m ∨ b = m + 33) → hI h' m 46 = nI (o + n0) → (∀ j, j ≠ 46 → hI h' m j = hI h m j) → (∀ j, hI h' (m + 33) j = if o + i ≤ j ∧ j < o + n0 then hI h (m + r) (j - o) else hI h (m + 33) j) → Q none h') → Reach d nX12_movesRow (2, [.ref m, .ref (m + r), .int (nI i)], []) h E1 E2 Q
  | 0, i, h, hi, H, hs, hb, ha, e1, e2, k => by
    have : i = n0 := by omega
    subst this
    refine wX12_movesRow_2 (by omega) m (m + r) (nI i) ?_
    have h5 : (Int32.ofNat i ≤ nI i) = (i ≤ i) := nI_le_iff (by omega) (by omega)
    simp only [rt_i, rt_b0, rt_b1, rt_v, rt_l, rt_o, rt_a, rV_none, rI_some, rL_some, rR_some, rT_some, rt_bI, hIf_sL, hIf_sR, hS_sI, hS_sL, hS_sR, hS_cpI, hR_sI, hR_sL, hR_cpI, hL_sI, hL_sR, hL_cpI, hI_sL, hI_sR, hN_sI, hN_sL, hN_sR, hN_cpI, hU_sI, hU_sL, hU_sR, hU_cpI, tn0, tn1, tn2, tn3, tn4, tn5, tn6, tn7, tn8, tn9, tn10, tn11, tn12, tn13, tn14, tn15, tn16, tn17, tn18, tn19, tn20, tn21, tn22, tn23, tn24, tn25, tn26, tn27, tn28, tn29, tn30, tn31, tn32, tn33, tn34, tn35, tn36, tn37, tn38, tn39, tn40, tn41, tn42, tn43, tn44, tn45, tn46, tn47, tn48, tn49, tn50, tn51, tn52, tn53, tn54, tn55, tn56, tn57, tn58, tn59, tn60, lH_eq, true_and, and_true, hs, h5]
    exact ⟨by decide, by decide, fun _ => ⟨e1, e2, k h (Fr'.refl _ _) ha (fun _ _ => rfl) (fun j => by rw [if_neg (by omega)])⟩, fun z => absurd (Nat.le_refl i) z⟩
  | n + 1, i, h, hi, H, hs, hb, ha, e1, e2, k => by
    refine wX12_movesRow_2 (by omega) m (m + r) (nI i) ?_
    have h5 : (Int32.ofNat n0 ≤ nI i) = (n0 ≤ i) := nI_le_iff (by omega) (by omega)
    have vi := vp_in_nI (show i < n0 by omega) (show n0 < 2 ^ 31 by omega)
    simp only [rt_i, rt_b0, rt_b1, rt_v, rt_l, rt_o, rt_a, rV_none, rI_some, rL_some, rR_some, rT_some, rt_bI, hIf_sL, hIf_sR, hS_sI, hS_sL, hS_sR, hS_cpI, hR_sI, hR_sL, hR_cpI, hL_sI, hL_sR, hL_cpI, hI_sL, hI_sR, hN_sI, hN_sL, hN_sR, hN_cpI, hU_sI, hU_sL, hU_sR, hU_cpI, tn0, tn1, tn2, tn3, tn4, tn5, tn6, tn7, tn8, tn9, tn10, tn11, tn12, tn13, tn14, tn15, tn16, tn17, tn18, tn19, tn20, tn21, tn22, tn23, tn24, tn25, tn26, tn27, tn28, tn29, tn30, tn31, tn32, tn33, tn34, tn35, tn36, tn37, tn38, tn39, tn40, tn41, tn42, tn43, tn44, tn45, tn46, tn47, tn48, tn49, tn50, tn51, tn52, tn53, tn54, tn55, tn56, tn57, tn58, tn59, tn60, lH_eq, true_and, and_true, hs, h5, mdq_0 H, vi, nI_clamp (show i < 2 ^ 31 by omega)]
    refine ⟨by decide, by decide, fun z => absurd z (by omega), fun _ => ?_⟩
    refine m_movesS (by omega) m (o + i) _ H (by omega) hb ha (fun h1 f1 q1 q2 q3 => ?_)
    simp only [rt_i, rt_b0, rt_b1, rt_v, rt_l, rt_o, rt_a, rV_none, rI_some, rL_some, rR_some, rT_some, rt_bI, hIf_sL, hIf_sR, hS_sI, hS_sL, hS_sR, hS_cpI, hR_sI, hR_sL, hR_cpI, hL_sI, hL_sR, hL_cpI, hI_sL, hI_sR, hN_sI, hN_sL, hN_sR, hN_cpI, hU_sI, hU_sL, hU_sR, hU_cpI, tn0, tn1, tn2, tn3, tn4, tn5, tn6, tn7, tn8, tn9, tn10, tn11, tn12, tn13, tn14, tn15, tn16, tn17, tn18, tn19, tn20, tn21, tn22, tn23, tn24, tn25, tn26, tn27, tn28, tn29, tn30, tn31, tn32, tn33, tn34, tn35, tn36, tn37, tn38, tn39, tn40, tn41, tn42, tn43, tn44, tn45, tn46, tn47, tn48, tn49, tn50, tn51, tn52, tn53, tn54, tn55, tn56, tn57, tn58, tn59, tn60, lH_eq, true_and, and_true, f1.1, hs, vi, nI_clamp (show i < 2 ^ 31 by omega), nI_1]
    have f2 : Fr' h (sI h1 (m + r) i (hI h (m + r) i)) (fun b => b = m ∨ b = m + 33) := fr_same f1 (fun _ => rfl)
    have er : ∀ j, hI (sI h1 (m + r) i (hI h (m + r) i)) (m + r) j = hI h (m + r) j := f2.2.2.2.2.1 (m + r) (by omega)
    have em : ∀ j, hI (sI h1 (m + r) i (hI h (m + r) i)) m j = hI h1 m j := fun j => by rw [hI_sI, if_neg (by omega)]
    have e33 : ∀ j, hI (sI h1 (m + r) i (hI h (m + r) i)) (m + 33) j = hI h1 (m + 33) j := fun j => by rw [hI_sI, if_neg (by omega)]
    refine mrs_loop hd m r n0 o h0 hr hn0 ho n (i + 1) _ (by omega) (H.fr f2) (by rw [f2.1]; exact hs) (by rw [em, q2 47 (by decide)]; exact hb) (by rw [em]; exact q1) (f2.2.2.1.trans e1) (f2.2.2.2.1.trans e2) (fun h' f p1 p2 p3 => k h' (f2.trans f) p1 (fun j hj => by rw [p2 j hj, em, q2 j hj]) (fun j => ?_))
    rw [p3 j, e33, q3]
    by_cases c : o + (i + 1) ≤ j ∧ j < o + n0
    · rw [if_pos c, if_pos (by omega), er]
    · rw [if_neg c]
      by_cases c2 : j = o + i
      · subst c2
        rw [if_pos rfl, if_pos (by omega)]
        congr 1
        omega
      · rw [if_neg c2, if_neg (by omega)]
theorem mrl_loop {d E1 E2 : Nat} {Q : Option Value → AH → Prop} (hd : 5 ≤ d) (m r n0 o : Nat) (h0 : 1 ≤ r) (hr : r ≤ 6) (hn0 : n0 ≤ 6) (ho : o + n0 ≤ 560) : ∀ (n i : Nat) (h : AH), i + n = n0 → ModAt h m → hS h (m + r) = (1, n0) → hI h m 47 = 1 → hI h m 46 = nI (o + i) → hN h = E1 → hU h = E2 → (∀ h', Fr' h h' (fun b => b = m ∨ b = m + r) → hI h' m 46 = nI (o + n0) → (∀ j, j ≠ 46 → hI h' m j = hI h m j) → (∀ j, hI h' (m + r) j = if i ≤ j ∧ j < n0 then hI h (m + 33) (o + j) else hI h (m + r) j) → Q none h') → Reach d nX12_movesRow (2, [.ref m, .ref (m + r), .int (nI i)], []) h E1 E2 Q
  | 0, i, h, hi, H, hs, hb, ha, e1, e2, k => by
    have : i = n0 := by omega
    subst this
    refine wX12_movesRow_2 (by omega) m (m + r) (nI i) ?_
    have h5 : (Int32.ofNat i ≤ nI i) = (i ≤ i) := nI_le_iff (by omega) (by omega)
    simp only [rt_i, rt_b0, rt_b1, rt_v, rt_l, rt_o, rt_a, rV_none, rI_some, rL_some, rR_some, rT_some, rt_bI, hIf_sL, hIf_sR, hS_sI, hS_sL, hS_sR, hS_cpI, hR_sI, hR_sL, hR_cpI, hL_sI, hL_sR, hL_cpI, hI_sL, hI_sR, hN_sI, hN_sL, hN_sR, hN_cpI, hU_sI, hU_sL, hU_sR, hU_cpI, tn0, tn1, tn2, tn3, tn4, tn5, tn6, tn7, tn8, tn9, tn10, tn11, tn12, tn13, tn14, tn15, tn16, tn17, tn18, tn19, tn20, tn21, tn22, tn23, tn24, tn25, tn26, tn27, tn28, tn29, tn30, tn31, tn32, tn33, tn34, tn35, tn36, tn37, tn38, tn39, tn40, tn41, tn42, tn43, tn44, tn45, tn46, tn47, tn48, tn49, tn50, tn51, tn52, tn53, tn54, tn55, tn56, tn57, tn58, tn59, tn60, lH_eq, true_and, and_true, hs, h5]
    exact ⟨by decide, by decide, fun _ => ⟨e1, e2, k h (Fr'.refl _ _) ha (fun _ _ => rfl) (fun j => by rw [if_neg (by omega)])⟩, fun z => absurd (Nat.le_refl i) z⟩
  | n + 1, i, h, hi, H, hs, hb, ha, e1, e2, k => by
    refine wX12_movesRow_2 (by omega) m (m + r) (nI i) ?_
    have h5 : (Int32.ofNat n0 ≤ nI i) = (n0 ≤ i) := nI_le_iff (by omega) (by omega)
    have vi := vp_in_nI (show i < n0 by omega) (show n0 < 2 ^ 31 by omega)
    simp only [rt_i, rt_b0, rt_b1, rt_v, rt_l, rt_o, rt_a, rV_none, rI_some, rL_some, rR_some, rT_some, rt_bI, hIf_sL, hIf_sR, hS_sI, hS_sL, hS_sR, hS_cpI, hR_sI, hR_sL, hR_cpI, hL_sI, hL_sR, hL_cpI, hI_sL, hI_sR, hN_sI, hN_sL, hN_sR, hN_cpI, hU_sI, hU_sL, hU_sR, hU_cpI, tn0, tn1, tn2, tn3, tn4, tn5, tn6, tn7, tn8, tn9, tn10, tn11, tn12, tn13, tn14, tn15, tn16, tn17, tn18, tn19, tn20, tn21, tn22, tn23, tn24, tn25, tn26, tn27, tn28, tn29, tn30, tn31, tn32, tn33, tn34, tn35, tn36, tn37, tn38, tn39, tn40, tn41, tn42, tn43, tn44, tn45, tn46, tn47, tn48, tn49, tn50, tn51, tn52, tn53, tn54, tn55, tn56, tn57, tn58, tn59, tn60, lH_eq, true_and, and_true, hs, h5, mdq_0 H, vi, nI_clamp (show i < 2 ^ 31 by omega)]
    refine ⟨by decide, by decide, fun z => absurd z (by omega), fun _ => ?_⟩
    refine m_movesL (by omega) m (o + i) _ H (by omega) hb ha (fun h1 f1 q1 q2 => ?_)
    simp only [rt_i, rt_b0, rt_b1, rt_v, rt_l, rt_o, rt_a, rV_none, rI_some, rL_some, rR_some, rT_some, rt_bI, hIf_sL, hIf_sR, hS_sI, hS_sL, hS_sR, hS_cpI, hR_sI, hR_sL, hR_cpI, hL_sI, hL_sR, hL_cpI, hI_sL, hI_sR, hN_sI, hN_sL, hN_sR, hN_cpI, hU_sI, hU_sL, hU_sR, hU_cpI, tn0, tn1, tn2, tn3, tn4, tn5, tn6, tn7, tn8, tn9, tn10, tn11, tn12, tn13, tn14, tn15, tn16, tn17, tn18, tn19, tn20, tn21, tn22, tn23, tn24, tn25, tn26, tn27, tn28, tn29, tn30, tn31, tn32, tn33, tn34, tn35, tn36, tn37, tn38, tn39, tn40, tn41, tn42, tn43, tn44, tn45, tn46, tn47, tn48, tn49, tn50, tn51, tn52, tn53, tn54, tn55, tn56, tn57, tn58, tn59, tn60, lH_eq, true_and, and_true, f1.1, hs, vi, nI_clamp (show i < 2 ^ 31 by omega), nI_1]
    have f2 : Fr' h (sI h1 (m + r) i (hI h (m + 33) (o + i))) (fun b => b = m ∨ b = m + r) := (f1.mono (fun b z => Or.inl z)).trans (Fr'.sI (Or.inr rfl))
    have em : ∀ j, hI (sI h1 (m + r) i (hI h (m + 33) (o + i))) m j = hI h1 m j := fun j => by rw [hI_sI, if_neg (by omega)]
    refine mrl_loop hd m r n0 o h0 hr hn0 ho n (i + 1) _ (by omega) (H.fr f2) (by rw [f2.1]; exact hs) (by rw [em, q2 47 (by decide)]; exact hb) (by rw [em]; exact q1) (f2.2.2.1.trans e1) (f2.2.2.2.1.trans e2) (fun h' f p1 p2 p3 => k h' (f2.trans f) p1 (fun j hj => by rw [p2 j hj, em, q2 j hj]) (fun j => ?_))
    rw [p3 j, f2.2.2.2.2.1 (m + 33) (by omega), hI_sI, if_pos rfl, f1.2.2.2.2.1 (m + r) (by omega)]
    by_cases c : i + 1 ≤ j ∧ j < n0
    · rw [if_pos c, if_pos (by omega)]
    · rw [if_neg c]
      by_cases c2 : j = i
      · subst c2
        rw [if_pos rfl, if_pos (by omega)]
      · rw [if_neg c2, if_neg (by omega)]
def oP (r : Nat) : Nat := match r with
  | 2 => 1
  | 3 => 6
  | 4 => 11
  | 5 => 16
  | _ => 22
theorem mrows_apart : ∀ r ∈ [2, 3, 4, 5, 6], ∀ s ∈ [2, 3, 4, 5, 6], oP s + lnR s ≤ oP r + lnR r → s = r ∨ oP s + lnR s ≤ oP r := by decide
theorem mrows_lt : ∀ r ∈ [2, 3, 4, 5, 6], 1 ≤ lnR r ∧ lnR r ≤ 6 ∧ oP r + lnR r ≤ 28 ∧ 1 ≤ oP r ∧ 2 ≤ r ∧ r ≤ 6 ∧ r ∈ rowsL := by decide
def MSv (h0 h : AH) (m base n : Nat) : Prop := Fr' h0 h (fun b => b = m ∨ b = m + 33) ∧ hI h m 47 = 0 ∧ hI h m 46 = nI (base + n) ∧ (∀ j, j ≠ 46 → j ≠ 47 → hI h m j = hI h0 m j) ∧ (0 < n → hI h (m + 33) base = hI h0 (m + 1) 3) ∧ (∀ r ∈ [2, 3, 4, 5, 6], ∀ j, j < lnR r → oP r + lnR r ≤ n → hI h (m + 33) (base + oP r + j) = hI h0 (m + r) j) ∧ (∀ j, (j < base ∨ base + n ≤ j) → hI h (m + 33) j = hI h0 (m + 33) j)
theorem ms_step {d : Nat} {h : AH} {Q : Option Value → AH → Prop} {h0 : AH} (hd : 6 ≤ d) (m base r : Nat) (H : ModAt h0 m) (hr : r ∈ [2, 3, 4, 5, 6]) (hb : base + 28 ≤ 560) (c : MSv h0 h m base (oP r)) (k : ∀ h', MSv h0 h' m base (oP r + lnR r) → Q none h') : Calls d nX12_movesRow [.ref m, .ref (m + r)] h (hN h) (hU h) Q := by
  obtain ⟨e, rfl⟩ : ∃ e, d = e + 1 := ⟨d - 1, by omega⟩
  obtain ⟨f, c1, c2, c3, c6, c4, c5⟩ := c
  have hl := mrows_lt r hr
  refine wX12_movesRow (by omega) m (m + r) (mrs_loop (by omega) m r (lnR r) (base + oP r) (by omega) hl.2.2.2.2.2.1 hl.2.1 (by omega) (lnR r) 0 h (by omega) (H.fr f) (by rw [f.1]; exact rows_sh H r hl.2.2.2.2.2.2) c1 c2 rfl rfl (fun h' f' q1 q2 q3 => k h' ⟨f.trans f', ?_, ?_, ?_, ?_, ?_, ?_⟩))
  · rw [q2 47 (by decide)]; exact c1
  · rw [q1, Nat.add_assoc]
  · intro j h1 h2
    rw [q2 j h1]; exact c3 j h1 h2
  · intro _
    rw [q3, if_neg (by omega)]
    exact c6 (by omega)
  · intro s hs j hj hle
    rw [q3]
    rcases mrows_apart r hr s hs hle with e | e
    · subst e
      rw [if_pos (by omega), ← f.2.2.2.2.1 (m + s) (by omega)]
      congr 1
      omega
    · rw [if_neg (by omega)]
      exact c4 s hs j hj e
  · intro j hj
    rw [q3, if_neg (by omega)]
    exact c5 j (by omega)
def MLd (h0 h : AH) (m base n : Nat) : Prop := Fr' h0 h (fun b => b = m ∨ b = m + 1 ∨ b = m + 2 ∨ b = m + 3 ∨ b = m + 4 ∨ b = m + 5 ∨ b = m + 6) ∧ hI h m 47 = 1 ∧ hI h m 46 = nI (base + n) ∧ (∀ j, j ≠ 46 → j ≠ 47 → hI h m j = hI h0 m j) ∧ (∀ j, j ≠ 3 → hI h (m + 1) j = hI h0 (m + 1) j) ∧ (0 < n → hI h (m + 1) 3 = hI h0 (m + 33) base) ∧ (∀ r ∈ [2, 3, 4, 5, 6], ∀ j, j < lnR r → oP r + lnR r ≤ n → hI h (m + r) j = hI h0 (m + 33) (base + oP r + j))
theorem ml_step {d : Nat} {h : AH} {Q : Option Value → AH → Prop} {h0 : AH} (hd : 6 ≤ d) (m base r : Nat) (H : ModAt h0 m) (hr : r ∈ [2, 3, 4, 5, 6]) (hb : base + 28 ≤ 560) (c : MLd h0 h m base (oP r)) (k : ∀ h', MLd h0 h' m base (oP r + lnR r) → Q none h') : Calls d nX12_movesRow [.ref m, .ref (m + r)] h (hN h) (hU h) Q := by
  obtain ⟨e, rfl⟩ : ∃ e, d = e + 1 := ⟨d - 1, by omega⟩
  obtain ⟨f, c1, c2, c3, c5, c6, c4⟩ := c
  have hl := mrows_lt r hr
  refine wX12_movesRow (by omega) m (m + r) (mrl_loop (by omega) m r (lnR r) (base + oP r) (by omega) hl.2.2.2.2.2.1 hl.2.1 (by omega) (lnR r) 0 h (by omega) (H.fr f) (by rw [f.1]; exact rows_sh H r hl.2.2.2.2.2.2) c1 c2 rfl rfl (fun h' f' q1 q2 q3 => k h' ⟨f.trans (f'.mono (fun b z => by omega)), ?_, ?_, ?_, ?_, ?_, ?_⟩))
  · rw [q2 47 (by decide)]; exact c1
  · rw [q1, Nat.add_assoc]
  · intro j h1 h2
    rw [q2 j h1]; exact c3 j h1 h2
  · intro j hj
    rw [f'.2.2.2.2.1 (m + 1) (by omega)]; exact c5 j hj
  · intro _
    rw [f'.2.2.2.2.1 (m + 1) (by omega)]; exact c6 (by omega)
  · intro s hs j hj hle
    rcases mrows_apart r hr s hs hle with e | e
    · subst e
      rw [q3, if_pos (by omega), f.2.2.2.2.1 (m + 33) (by omega)]
    · have hsr : s ≠ r := fun z => by subst z; omega
      rw [f'.2.2.2.2.1 (m + s) (by have := mrows_lt s hs; omega)]
      exact c4 s hs j hj e
theorem m_movesAllS {d : Nat} {h : AH} {Q : Option Value → AH → Prop} (hd : 7 ≤ d) (m a : Nat) (ha : a < 20) (H : ModAt h m) (k : ∀ h', MSv h h' m (28 * a) 28 → Q none h') : Calls d nX12_movesAll [.ref m, .int (nI a), .int 0] h (hN h) (hU h) Q := by
  obtain ⟨e, rfl⟩ : ∃ e, d = e + 1 := ⟨d - 1, by omega⟩
  have i1 : (28 : Int32) * nI a = nI (28 * a) := pk_mul 28 a
  refine wX12_movesAll (by omega) m (nI a) 0 ?_
  simp only [mdq_0 H, mdq_1 H, mds_1 H, mdq_2 H, mds_2 H, mdq_3 H, mds_3 H, mdq_4 H, mds_4 H, mdq_5 H, mds_5 H, mdq_6 H, mds_6 H, true_and, rt_i, rt_b0, rt_b1, rt_v, rt_l, rt_o, rt_a, rV_none, rI_some, rL_some, rR_some, rT_some, rt_bI, hIf_sL, hIf_sR, hS_sI, hS_sL, hS_sR, hS_cpI, hR_sI, hR_sL, hR_cpI, hL_sI, hL_sR, hL_cpI, hI_sL, hI_sR, hN_sI, hN_sL, hN_sR, hN_cpI, hU_sI, hU_sL, hU_sR, hU_cpI, tn0, tn1, tn2, tn3, tn4, tn5, tn6, tn7, tn8, tn9, tn10, tn11, tn12, tn13, tn14, tn15, tn16, tn17, tn18, tn19, tn20, tn21, tn22, tn23, tn24, tn25, tn26, tn27, tn28, tn29, tn30, tn31, tn32, tn33, tn34, tn35, tn36, tn37, tn38, tn39, tn40, tn41, tn42, tn43, tn44, tn45, tn46, tn47, tn48, tn49, tn50, tn51, tn52, tn53, tn54, tn55, tn56, tn57, tn58, tn59, tn60, lH_eq, true_and, and_true, vl7_0, vl7_1, vl7_2, vl7_3, vl7_4, vl7_5, vl7_6, i1, hI_sI, show (m + 1 = m) = False by simp, if_false]
  refine ⟨by decide, ?_⟩
  have f0 : Fr' h (sI (sI h m 46 (nI (28 * a))) m 47 0) (fun b => b = m ∨ b = m + 33) := (Fr'.sI (Or.inl rfl)).trans (Fr'.sI (Or.inl rfl))
  refine m_movesS (by omega) m (28 * a) _ H (by omega) (by simp only [hI_sI]; simp) (by simp only [hI_sI]; simp) (fun h1 f1 q1 q2 q3 => ?_)
  have f2 : Fr' h (sI h1 (m + 1) 3 (hI h (m + 1) 3)) (fun b => b = m ∨ b = m + 33) := fr_same (f0.trans f1) (fun _ => rfl)
  simp only [rI_some, f1.1, f1.2.1, rt_i, rt_b0, rt_b1, rt_v, rt_l, rt_o, rt_a, rV_none, rI_some, rL_some, rR_some, rT_some, rt_bI, hIf_sL, hIf_sR, hS_sI, hS_sL, hS_sR, hS_cpI, hR_sI, hR_sL, hR_cpI, hL_sI, hL_sR, hL_cpI, hI_sL, hI_sR, hN_sI, hN_sL, hN_sR, hN_cpI, hU_sI, hU_sL, hU_sR, hU_cpI, tn0, tn1, tn2, tn3, tn4, tn5, tn6, tn7, tn8, tn9, tn10, tn11, tn12, tn13, tn14, tn15, tn16, tn17, tn18, tn19, tn20, tn21, tn22, tn23, tn24, tn25, tn26, tn27, tn28, tn29, tn30, tn31, tn32, tn33, tn34, tn35, tn36, tn37, tn38, tn39, tn40, tn41, tn42, tn43, tn44, tn45, tn46, tn47, tn48, tn49, tn50, tn51, tn52, tn53, tn54, tn55, tn56, tn57, tn58, tn59, tn60, lH_eq, true_and, and_true, mdq_0 H, mdq_1 H, mds_1 H, mdq_2 H, mds_2 H, mdq_3 H, mds_3 H, mdq_4 H, mds_4 H, mdq_5 H, mds_5 H, mdq_6 H, mds_6 H, vl7_0, vl7_1, vl7_2, vl7_3, vl7_4, vl7_5, vl7_6]
  have c1 : MSv h (sI h1 (m + 1) 3 (hI h (m + 1) 3)) m (28 * a) 1 := by
    have em : ∀ j, hI (sI h1 (m + 1) 3 (hI h (m + 1) 3)) m j = hI h1 m j := fun j => by rw [hI_sI, if_neg (by omega)]
    have e33 : ∀ j, hI (sI h1 (m + 1) 3 (hI h (m + 1) 3)) (m + 33) j = hI h1 (m + 33) j := fun j => by rw [hI_sI, if_neg (by omega)]
    refine ⟨f2, ?_, by rw [em]; exact q1, fun j h1 h2 => ?_, fun _ => ?_, fun r hr j hj hle => ?_, fun j hj => ?_⟩
    · rw [em, q2 47 (by decide)]; simp only [hI_sI]; simp
    · rw [em, q2 j h1]; simp only [hI_sI, if_true, if_neg h1, if_neg h2]
    · rw [e33, q3, if_pos rfl]
    · have := mrows_lt r hr
      omega
    · rw [e33, q3, if_neg (by omega)]
      simp only [hI_sI, show (m + 33 = m) = False by simp, if_false]
  refine ms_step (h0 := h) (by omega) m (28 * a) 2 H (by decide) (by omega) c1 (fun h2 c2 => ?_)
  simp only [rV_none, c2.1.1, c2.1.2.1, mdq_0 H, mdq_1 H, mds_1 H, mdq_2 H, mds_2 H, mdq_3 H, mds_3 H, mdq_4 H, mds_4 H, mdq_5 H, mds_5 H, mdq_6 H, mds_6 H, true_and, rt_i, rt_b0, rt_b1, rt_v, rt_l, rt_o, rt_a, rV_none, rI_some, rL_some, rR_some, rT_some, rt_bI, hIf_sL, hIf_sR, hS_sI, hS_sL, hS_sR, hS_cpI, hR_sI, hR_sL, hR_cpI, hL_sI, hL_sR, hL_cpI, hI_sL, hI_sR, hN_sI, hN_sL, hN_sR, hN_cpI, hU_sI, hU_sL, hU_sR, hU_cpI, tn0, tn1, tn2, tn3, tn4, tn5, tn6, tn7, tn8, tn9, tn10, tn11, tn12, tn13, tn14, tn15, tn16, tn17, tn18, tn19, tn20, tn21, tn22, tn23, tn24, tn25, tn26, tn27, tn28, tn29, tn30, tn31, tn32, tn33, tn34, tn35, tn36, tn37, tn38, tn39, tn40, tn41, tn42, tn43, tn44, tn45, tn46, tn47, tn48, tn49, tn50, tn51, tn52, tn53, tn54, tn55, tn56, tn57, tn58, tn59, tn60, lH_eq, true_and, and_true]
  refine ms_step (h0 := h) (by omega) m (28 * a) 3 H (by decide) (by omega) c2 (fun h3 c3 => ?_)
  simp only [rV_none, c3.1.1, c3.1.2.1, mdq_0 H, mdq_1 H, mds_1 H, mdq_2 H, mds_2 H, mdq_3 H, mds_3 H, mdq_4 H, mds_4 H, mdq_5 H, mds_5 H, mdq_6 H, mds_6 H, true_and, rt_i, rt_b0, rt_b1, rt_v, rt_l, rt_o, rt_a, rV_none, rI_some, rL_some, rR_some, rT_some, rt_bI, hIf_sL, hIf_sR, hS_sI, hS_sL, hS_sR, hS_cpI, hR_sI, hR_sL, hR_cpI, hL_sI, hL_sR, hL_cpI, hI_sL, hI_sR, hN_sI, hN_sL, hN_sR, hN_cpI, hU_sI, hU_sL, hU_sR, hU_cpI, tn0, tn1, tn2, tn3, tn4, tn5, tn6, tn7, tn8, tn9, tn10, tn11, tn12, tn13, tn14, tn15, tn16, tn17, tn18, tn19, tn20, tn21, tn22, tn23, tn24, tn25, tn26, tn27, tn28, tn29, tn30, tn31, tn32, tn33, tn34, tn35, tn36, tn37, tn38, tn39, tn40, tn41, tn42, tn43, tn44, tn45, tn46, tn47, tn48, tn49, tn50, tn51, tn52, tn53, tn54, tn55, tn56, tn57, tn58, tn59, tn60, lH_eq, true_and, and_true]
  refine ms_step (h0 := h) (by omega) m (28 * a) 4 H (by decide) (by omega) c3 (fun h4 c4 => ?_)
  simp only [rV_none, c4.1.1, c4.1.2.1, mdq_0 H, mdq_1 H, mds_1 H, mdq_2 H, mds_2 H, mdq_3 H, mds_3 H, mdq_4 H, mds_4 H, mdq_5 H, mds_5 H, mdq_6 H, mds_6 H, true_and, rt_i, rt_b0, rt_b1, rt_v, rt_l, rt_o, rt_a, rV_none, rI_some, rL_some, rR_some, rT_some, rt_bI, hIf_sL, hIf_sR, hS_sI, hS_sL, hS_sR, hS_cpI, hR_sI, hR_sL, hR_cpI, hL_sI, hL_sR, hL_cpI, hI_sL, hI_sR, hN_sI, hN_sL, hN_sR, hN_cpI, hU_sI, hU_sL, hU_sR, hU_cpI, tn0, tn1, tn2, tn3, tn4, tn5, tn6, tn7, tn8, tn9, tn10, tn11, tn12, tn13, tn14, tn15, tn16, tn17, tn18, tn19, tn20, tn21, tn22, tn23, tn24, tn25, tn26, tn27, tn28, tn29, tn30, tn31, tn32, tn33, tn34, tn35, tn36, tn37, tn38, tn39, tn40, tn41, tn42, tn43, tn44, tn45, tn46, tn47, tn48, tn49, tn50, tn51, tn52, tn53, tn54, tn55, tn56, tn57, tn58, tn59, tn60, lH_eq, true_and, and_true]
  refine ms_step (h0 := h) (by omega) m (28 * a) 5 H (by decide) (by omega) c4 (fun h5 c5 => ?_)
  simp only [rV_none, c5.1.1, c5.1.2.1, mdq_0 H, mdq_1 H, mds_1 H, mdq_2 H, mds_2 H, mdq_3 H, mds_3 H, mdq_4 H, mds_4 H, mdq_5 H, mds_5 H, mdq_6 H, mds_6 H, true_and, rt_i, rt_b0, rt_b1, rt_v, rt_l, rt_o, rt_a, rV_none, rI_some, rL_some, rR_some, rT_some, rt_bI, hIf_sL, hIf_sR, hS_sI, hS_sL, hS_sR, hS_cpI, hR_sI, hR_sL, hR_cpI, hL_sI, hL_sR, hL_cpI, hI_sL, hI_sR, hN_sI, hN_sL, hN_sR, hN_cpI, hU_sI, hU_sL, hU_sR, hU_cpI, tn0, tn1, tn2, tn3, tn4, tn5, tn6, tn7, tn8, tn9, tn10, tn11, tn12, tn13, tn14, tn15, tn16, tn17, tn18, tn19, tn20, tn21, tn22, tn23, tn24, tn25, tn26, tn27, tn28, tn29, tn30, tn31, tn32, tn33, tn34, tn35, tn36, tn37, tn38, tn39, tn40, tn41, tn42, tn43, tn44, tn45, tn46, tn47, tn48, tn49, tn50, tn51, tn52, tn53, tn54, tn55, tn56, tn57, tn58, tn59, tn60, lH_eq, true_and, and_true]
  refine ms_step (h0 := h) (by omega) m (28 * a) 6 H (by decide) (by omega) c5 (fun h6 c6 => ?_)
  simp only [rV_none, rt_v]
  exact ⟨c6.1.2.2.1, c6.1.2.2.2.1, k h6 c6⟩
theorem m_movesAllL {d : Nat} {h : AH} {Q : Option Value → AH → Prop} (hd : 7 ≤ d) (m a : Nat) (ha : a < 20) (H : ModAt h m) (k : ∀ h', MLd h h' m (28 * a) 28 → Q none h') : Calls d nX12_movesAll [.ref m, .int (nI a), .int 1] h (hN h) (hU h) Q := by
  obtain ⟨e, rfl⟩ : ∃ e, d = e + 1 := ⟨d - 1, by omega⟩
  have i1 : (28 : Int32) * nI a = nI (28 * a) := pk_mul 28 a
  refine wX12_movesAll (by omega) m (nI a) 1 ?_
  simp only [mdq_0 H, mdq_1 H, mds_1 H, mdq_2 H, mds_2 H, mdq_3 H, mds_3 H, mdq_4 H, mds_4 H, mdq_5 H, mds_5 H, mdq_6 H, mds_6 H, true_and, rt_i, rt_b0, rt_b1, rt_v, rt_l, rt_o, rt_a, rV_none, rI_some, rL_some, rR_some, rT_some, rt_bI, hIf_sL, hIf_sR, hS_sI, hS_sL, hS_sR, hS_cpI, hR_sI, hR_sL, hR_cpI, hL_sI, hL_sR, hL_cpI, hI_sL, hI_sR, hN_sI, hN_sL, hN_sR, hN_cpI, hU_sI, hU_sL, hU_sR, hU_cpI, tn0, tn1, tn2, tn3, tn4, tn5, tn6, tn7, tn8, tn9, tn10, tn11, tn12, tn13, tn14, tn15, tn16, tn17, tn18, tn19, tn20, tn21, tn22, tn23, tn24, tn25, tn26, tn27, tn28, tn29, tn30, tn31, tn32, tn33, tn34, tn35, tn36, tn37, tn38, tn39, tn40, tn41, tn42, tn43, tn44, tn45, tn46, tn47, tn48, tn49, tn50, tn51, tn52, tn53, tn54, tn55, tn56, tn57, tn58, tn59, tn60, lH_eq, true_and, and_true, vl7_0, vl7_1, vl7_2, vl7_3, vl7_4, vl7_5, vl7_6, i1, hI_sI, show (m + 1 = m) = False by simp, if_false]
  refine ⟨by decide, ?_⟩
  have f0 : Fr' h (sI (sI h m 46 (nI (28 * a))) m 47 1) (fun b => b = m) := (Fr'.sI (S := fun b => b = m) rfl).trans (Fr'.sI rfl)
  refine m_movesL (by omega) m (28 * a) _ H (by omega) (by simp only [hI_sI]; simp) (by simp only [hI_sI]; simp) (fun h1 f1 q1 q2 => ?_)
  have f01 := f0.trans f1
  rw [f0.2.2.2.2.1 (m + 33) (by omega)]
  simp only [rI_some, f1.1, f1.2.1, rt_i, rt_b0, rt_b1, rt_v, rt_l, rt_o, rt_a, rV_none, rI_some, rL_some, rR_some, rT_some, rt_bI, hIf_sL, hIf_sR, hS_sI, hS_sL, hS_sR, hS_cpI, hR_sI, hR_sL, hR_cpI, hL_sI, hL_sR, hL_cpI, hI_sL, hI_sR, hN_sI, hN_sL, hN_sR, hN_cpI, hU_sI, hU_sL, hU_sR, hU_cpI, tn0, tn1, tn2, tn3, tn4, tn5, tn6, tn7, tn8, tn9, tn10, tn11, tn12, tn13, tn14, tn15, tn16, tn17, tn18, tn19, tn20, tn21, tn22, tn23, tn24, tn25, tn26, tn27, tn28, tn29, tn30, tn31, tn32, tn33, tn34, tn35, tn36, tn37, tn38, tn39, tn40, tn41, tn42, tn43, tn44, tn45, tn46, tn47, tn48, tn49, tn50, tn51, tn52, tn53, tn54, tn55, tn56, tn57, tn58, tn59, tn60, lH_eq, true_and, and_true, mdq_0 H, mdq_1 H, mds_1 H, mdq_2 H, mds_2 H, mdq_3 H, mds_3 H, mdq_4 H, mds_4 H, mdq_5 H, mds_5 H, mdq_6 H, mds_6 H, vl7_0, vl7_1, vl7_2, vl7_3, vl7_4, vl7_5, vl7_6]
  have c1 : MLd h (sI h1 (m + 1) 3 (hI h (m + 33) (28 * a))) m (28 * a) 1 := by
    have em : ∀ j, hI (sI h1 (m + 1) 3 (hI h (m + 33) (28 * a))) m j = hI h1 m j := fun j => by rw [hI_sI, if_neg (by omega)]
    refine ⟨(f01.mono (fun b z => Or.inl z)).trans (Fr'.sI (Or.inr (Or.inl rfl))), ?_, by rw [em]; exact q1, fun j h1 h2 => ?_, fun j hj => ?_, fun _ => ?_, fun r hr j hj hle => ?_⟩
    · rw [em, q2 47 (by decide)]; simp only [hI_sI]; simp
    · rw [em, q2 j h1]; simp only [hI_sI, if_true, if_neg h1, if_neg h2]
    · rw [hI_sI, if_pos rfl, if_neg hj, f01.2.2.2.2.1 (m + 1) (by omega)]
    · rw [hI_sI, if_pos rfl, if_pos rfl]
    · have := mrows_lt r hr
      omega
  refine ml_step (h0 := h) (by omega) m (28 * a) 2 H (by decide) (by omega) c1 (fun h2 c2 => ?_)
  simp only [rV_none, c2.1.1, c2.1.2.1, mdq_0 H, mdq_1 H, mds_1 H, mdq_2 H, mds_2 H, mdq_3 H, mds_3 H, mdq_4 H, mds_4 H, mdq_5 H, mds_5 H, mdq_6 H, mds_6 H, true_and, rt_i, rt_b0, rt_b1, rt_v, rt_l, rt_o, rt_a, rV_none, rI_some, rL_some, rR_some, rT_some, rt_bI, hIf_sL, hIf_sR, hS_sI, hS_sL, hS_sR, hS_cpI, hR_sI, hR_sL, hR_cpI, hL_sI, hL_sR, hL_cpI, hI_sL, hI_sR, hN_sI, hN_sL, hN_sR, hN_cpI, hU_sI, hU_sL, hU_sR, hU_cpI, tn0, tn1, tn2, tn3, tn4, tn5, tn6, tn7, tn8, tn9, tn10, tn11, tn12, tn13, tn14, tn15, tn16, tn17, tn18, tn19, tn20, tn21, tn22, tn23, tn24, tn25, tn26, tn27, tn28, tn29, tn30, tn31, tn32, tn33, tn34, tn35, tn36, tn37, tn38, tn39, tn40, tn41, tn42, tn43, tn44, tn45, tn46, tn47, tn48, tn49, tn50, tn51, tn52, tn53, tn54, tn55, tn56, tn57, tn58, tn59, tn60, lH_eq, true_and, and_true]
  refine ml_step (h0 := h) (by omega) m (28 * a) 3 H (by decide) (by omega) c2 (fun h3 c3 => ?_)
  simp only [rV_none, c3.1.1, c3.1.2.1, mdq_0 H, mdq_1 H, mds_1 H, mdq_2 H, mds_2 H, mdq_3 H, mds_3 H, mdq_4 H, mds_4 H, mdq_5 H, mds_5 H, mdq_6 H, mds_6 H, true_and, rt_i, rt_b0, rt_b1, rt_v, rt_l, rt_o, rt_a, rV_none, rI_some, rL_some, rR_some, rT_some, rt_bI, hIf_sL, hIf_sR, hS_sI, hS_sL, hS_sR, hS_cpI, hR_sI, hR_sL, hR_cpI, hL_sI, hL_sR, hL_cpI, hI_sL, hI_sR, hN_sI, hN_sL, hN_sR, hN_cpI, hU_sI, hU_sL, hU_sR, hU_cpI, tn0, tn1, tn2, tn3, tn4, tn5, tn6, tn7, tn8, tn9, tn10, tn11, tn12, tn13, tn14, tn15, tn16, tn17, tn18, tn19, tn20, tn21, tn22, tn23, tn24, tn25, tn26, tn27, tn28, tn29, tn30, tn31, tn32, tn33, tn34, tn35, tn36, tn37, tn38, tn39, tn40, tn41, tn42, tn43, tn44, tn45, tn46, tn47, tn48, tn49, tn50, tn51, tn52, tn53, tn54, tn55, tn56, tn57, tn58, tn59, tn60, lH_eq, true_and, and_true]
  refine ml_step (h0 := h) (by omega) m (28 * a) 4 H (by decide) (by omega) c3 (fun h4 c4 => ?_)
  simp only [rV_none, c4.1.1, c4.1.2.1, mdq_0 H, mdq_1 H, mds_1 H, mdq_2 H, mds_2 H, mdq_3 H, mds_3 H, mdq_4 H, mds_4 H, mdq_5 H, mds_5 H, mdq_6 H, mds_6 H, true_and, rt_i, rt_b0, rt_b1, rt_v, rt_l, rt_o, rt_a, rV_none, rI_some, rL_some, rR_some, rT_some, rt_bI, hIf_sL, hIf_sR, hS_sI, hS_sL, hS_sR, hS_cpI, hR_sI, hR_sL, hR_cpI, hL_sI, hL_sR, hL_cpI, hI_sL, hI_sR, hN_sI, hN_sL, hN_sR, hN_cpI, hU_sI, hU_sL, hU_sR, hU_cpI, tn0, tn1, tn2, tn3, tn4, tn5, tn6, tn7, tn8, tn9, tn10, tn11, tn12, tn13, tn14, tn15, tn16, tn17, tn18, tn19, tn20, tn21, tn22, tn23, tn24, tn25, tn26, tn27, tn28, tn29, tn30, tn31, tn32, tn33, tn34, tn35, tn36, tn37, tn38, tn39, tn40, tn41, tn42, tn43, tn44, tn45, tn46, tn47, tn48, tn49, tn50, tn51, tn52, tn53, tn54, tn55, tn56, tn57, tn58, tn59, tn60, lH_eq, true_and, and_true]
  refine ml_step (h0 := h) (by omega) m (28 * a) 5 H (by decide) (by omega) c4 (fun h5 c5 => ?_)
  simp only [rV_none, c5.1.1, c5.1.2.1, mdq_0 H, mdq_1 H, mds_1 H, mdq_2 H, mds_2 H, mdq_3 H, mds_3 H, mdq_4 H, mds_4 H, mdq_5 H, mds_5 H, mdq_6 H, mds_6 H, true_and, rt_i, rt_b0, rt_b1, rt_v, rt_l, rt_o, rt_a, rV_none, rI_some, rL_some, rR_some, rT_some, rt_bI, hIf_sL, hIf_sR, hS_sI, hS_sL, hS_sR, hS_cpI, hR_sI, hR_sL, hR_cpI, hL_sI, hL_sR, hL_cpI, hI_sL, hI_sR, hN_sI, hN_sL, hN_sR, hN_cpI, hU_sI, hU_sL, hU_sR, hU_cpI, tn0, tn1, tn2, tn3, tn4, tn5, tn6, tn7, tn8, tn9, tn10, tn11, tn12, tn13, tn14, tn15, tn16, tn17, tn18, tn19, tn20, tn21, tn22, tn23, tn24, tn25, tn26, tn27, tn28, tn29, tn30, tn31, tn32, tn33, tn34, tn35, tn36, tn37, tn38, tn39, tn40, tn41, tn42, tn43, tn44, tn45, tn46, tn47, tn48, tn49, tn50, tn51, tn52, tn53, tn54, tn55, tn56, tn57, tn58, tn59, tn60, lH_eq, true_and, and_true]
  refine ml_step (h0 := h) (by omega) m (28 * a) 6 H (by decide) (by omega) c5 (fun h6 c6 => ?_)
  simp only [rV_none, rt_v]
  exact ⟨c6.1.2.2.1, c6.1.2.2.2.1, k h6 c6⟩
