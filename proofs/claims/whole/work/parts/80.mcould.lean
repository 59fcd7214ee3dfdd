/-! could a rule have ruled, reference -/
def QL (h : AH) (m nr nw : Nat) (cls : List (List (List (Nat × Nat) × List (Nat × Nat)))) (ns : List (Nat × Nat × Int32)) : Prop := hI h m 25 = nI cls.length ∧ cls.length ≤ 6 ∧ (∀ (i : Nat) (c : List (List (Nat × Nat) × List (Nat × Nat))), cls[i]? = some c → MRul h m i c) ∧ hI h (m + 1) 4 = nI ns.length ∧ (∀ (k : Nat) (q : Nat × Nat × Int32), ns[k]? = some q → hI h (m + 9) k = nI q.1 ∧ hI h (m + 10) k = nI q.2.1 ∧ hI h (m + 11) k = q.2.2) ∧ ntOk nr nw ns
theorem QL.rs {h0 h : AH} {m nr nw : Nat} {cls : List (List (List (Nat × Nat) × List (Nat × Nat)))} {ns : List (Nat × Nat × Int32)} (H : QL h0 m nr nw cls ns) (S : Rs h0 h m) : QL h m nr nw cls ns := by
  obtain ⟨a1, a2, a3, a4, a5, a6⟩ := H
  obtain ⟨⟨f, s1, s2, s3, s4⟩, s5⟩ := S
  refine ⟨(s1 25 (by decide) (by decide)).trans a1, a2, fun i c hc => (a3 i c hc).cg (fun b h1 h2 j => f.2.2.2.2.1 b (by unfold QW; omega) j), (s5 1 (by decide) 4 (by decide)).trans a4, fun k q hq => ?_, a6⟩
  rw [s4 9 (by decide), s4 10 (by decide), s4 11 (by decide)]
  exact a5 k q hq
theorem mfor_of {h : AH} {m i : Nat} {cls : List (List (List (Nat × Nat) × List (Nat × Nat)))} (hi : i ≤ cls.length) (hr : ∀ (i : Nat) (c : List (List (Nat × Nat) × List (Nat × Nat))), cls[i]? = some c → MRul h m i c) (e : hI h (m + 1) 6 = cI i) : MFor h m (Rr cls i) := by
  cases i with
  | zero => exact e.trans cI_0
  | succ j =>
    have hq : cls[j]? = some (cls[j]'(by omega)) := List.getElem?_eq_getElem (by omega)
    have er : Rr cls (j + 1) = some (cls[j]'(by omega)) := by
      unfold Rr
      rw [if_neg (by omega), Nat.add_sub_cancel, hq]
    rw [er]
    exact ⟨j, e.trans (cI_s j), hr j _ hq⟩
def LY (h : AH) (m nr nw : Nat) (R : Option (List (List (Nat × Nat) × List (Nat × Nat)))) (A : PC) (n : Nat) : Prop := ∀ k, k < n → ∀ w, w < nw → hI h (m + 40) (6 * k + w) = itF R A nr nw (k + 1) (begM A) 5 w
theorem cr27 {d E1 E2 : Nat} {Q : Option Value → AH → Prop} (hd : 4 ≤ d) (m n : Nat) (hn : n ≤ 60) : ∀ (l i : Nat) (h : AH), i + l = 6 → ModAt h m → (∀ h', Fr' h h' (fun c => c = m + 40) → (∀ j, hI h' (m + 40) j = if 6 * n + i ≤ j ∧ j < 6 * n + 6 then hI h (m + 6) (j - 6 * n) else hI h (m + 40) j) → Reach d nX12_couldRule (14, [.ref m, .float 0, .int (nI (n + 1)), .float 0], []) h' E1 E2 Q) → Reach d nX12_couldRule (27, [.ref m, .float 0, .int (nI n), .int (nI i)], []) h E1 E2 Q
  | 0, i, h, hi, H, k => by
    have : i = 6 := by omega
    subst this
    refine wX12_couldRule_27 hd m (nI n) (nI 6) ?_
    have h5 : ((6 : Int32) ≤ nI 6) = (6 ≤ 6) := nI_le_iff (a := 6) (by omega) (by omega)
    simp only [rt_i, rt_b0, rt_b1, rt_v, rt_l, rt_o, rt_a, rV_none, rI_some, rL_some, rR_some, rT_some, rt_bI, hIf_sL, hIf_sR, hS_sI, hS_sL, hS_sR, hS_cpI, hR_sI, hR_sL, hR_cpI, hL_sI, hL_sR, hL_cpI, hI_sL, hI_sR, hN_sI, hN_sL, hN_sR, hN_cpI, hU_sI, hU_sL, hU_sR, hU_cpI, tn0, tn1, tn2, tn3, tn4, tn5, tn6, tn7, tn8, tn9, tn10, tn11, tn12, tn13, tn14, tn15, tn16, tn17, tn18, tn19, tn20, tn21, tn22, tn23, tn24, tn25, tn26, tn27, tn28, tn29, tn30, tn31, tn32, tn33, tn34, tn35, tn36, tn37, tn38, tn39, tn40, tn41, tn42, tn43, tn44, tn45, tn46, tn47, tn48, tn49, tn50, tn51, tn52, tn53, tn54, tn55, tn56, tn57, tn58, tn59, tn60, lH_eq, true_and, and_true, h5, nI_1]
    exact ⟨fun _ => k h (Fr'.refl _ _) (fun j => by rw [if_neg (by omega)]), fun z => absurd (Nat.le_refl 6) z⟩
  | l + 1, i, h, hi, H, k => by
    refine wX12_couldRule_27 hd m (nI n) (nI i) ?_
    have h5 : ((6 : Int32) ≤ nI i) = (6 ≤ i) := nI_le_iff (a := 6) (by omega) (by omega)
    have i1 : 6 * nI n + nI i = nI (6 * n + i) := by rw [← nI_add, ← pk_mul]; rfl
    simp only [rt_i, rt_b0, rt_b1, rt_v, rt_l, rt_o, rt_a, rV_none, rI_some, rL_some, rR_some, rT_some, rt_bI, hIf_sL, hIf_sR, hS_sI, hS_sL, hS_sR, hS_cpI, hR_sI, hR_sL, hR_cpI, hL_sI, hL_sR, hL_cpI, hI_sL, hI_sR, hN_sI, hN_sL, hN_sR, hN_cpI, hU_sI, hU_sL, hU_sR, hU_cpI, tn0, tn1, tn2, tn3, tn4, tn5, tn6, tn7, tn8, tn9, tn10, tn11, tn12, tn13, tn14, tn15, tn16, tn17, tn18, tn19, tn20, tn21, tn22, tn23, tn24, tn25, tn26, tn27, tn28, tn29, tn30, tn31, tn32, tn33, tn34, tn35, tn36, tn37, tn38, tn39, tn40, tn41, tn42, tn43, tn44, tn45, tn46, tn47, tn48, tn49, tn50, tn51, tn52, tn53, tn54, tn55, tn56, tn57, tn58, tn59, tn60, lH_eq, true_and, and_true, mdq_0 H, mdq_6 H, mds_6 H, mdq_53 H, mds_53 H, vp_in_nI (show i < 6 by omega) (show 6 < 2 ^ 31 by omega), nI_clamp (show i < 2 ^ 31 by omega), i1, vp_in_nI (show 6 * n + i < 366 by omega) (show 366 < 2 ^ 31 by omega), nI_clamp (show 6 * n + i < 2 ^ 31 by omega), h5, nI_1]
    refine ⟨fun z => absurd z (by omega), fun _ => ?_⟩
    refine cr27 hd m n hn l (i + 1) _ (by omega) (H.fr (Fr'.sI (S := fun c => c = m + 40) rfl)) (fun h' f q => k h' ((Fr'.sI (S := fun c => c = m + 40) rfl).trans f) (fun j => ?_))
    rw [q j, hI_sI, if_neg (show m + 6 ≠ m + 40 by omega), hI_sI, if_pos (rfl : m + 40 = m + 40)]
    by_cases c : 6 * n + (i + 1) ≤ j ∧ j < 6 * n + 6
    · rw [if_pos c, if_pos (by omega)]
    · rw [if_neg c]
      by_cases c2 : j = 6 * n + i
      · rw [if_pos c2, if_pos (by omega), c2, show 6 * n + i - 6 * n = i by omega]
      · rw [if_neg c2, if_neg (by omega)]
theorem cr14 {d E1 E2 : Nat} {Q : Option Value → AH → Prop} {h0 : AH} (hd : 11 ≤ d) (m nr nw : Nat) (A : PC) (R : Option (List (List (Nat × Nat) × List (Nat × Nat)))) (hA : hilOk nr nw A) (H0 : ModAt h0 m) (f32 f41 : Nat → Int32) (k : ∀ h', Rs h0 h' m → (∀ j, hI h' (m + 32) j = f32 j) → LY h' m nr nw R A 61 → (∀ j, hI h' (m + 41) j = f41 j) → Reach d nX12_couldRule (68, [.ref m, .float 0, .int 0, .float 0], []) h' E1 E2 Q) : ∀ (l n : Nat) (h : AH), n + l = 61 → Sv h0 h m → QC h m nr nw A (itF R A nr nw n (begM A)) R (fun _ => none) → LY h m nr nw R A n → (∀ j, hI h (m + 32) j = f32 j) → (∀ j, hI h (m + 41) j = f41 j) → Reach d nX12_couldRule (14, [.ref m, .float 0, .int (nI n), .float 0], []) h E1 E2 Q
  | 0, n, h, hn, S, HQ, HL, h32, h41 => by
    have : n = 61 := by omega
    subst this
    refine wX12_couldRule_14 (by omega) m (nI 61) ?_
    have h5 : ((60 : Int32) < nI 61) = (60 < 61) := nI_lt_iff (a := 60) (by omega) (by omega)
    simp only [rt_i, rt_b0, rt_b1, rt_v, rt_l, rt_o, rt_a, rV_none, rI_some, rL_some, rR_some, rT_some, rt_bI, hIf_sL, hIf_sR, hS_sI, hS_sL, hS_sR, hS_cpI, hR_sI, hR_sL, hR_cpI, hL_sI, hL_sR, hL_cpI, hI_sL, hI_sR, hN_sI, hN_sL, hN_sR, hN_cpI, hU_sI, hU_sL, hU_sR, hU_cpI, tn0, tn1, tn2, tn3, tn4, tn5, tn6, tn7, tn8, tn9, tn10, tn11, tn12, tn13, tn14, tn15, tn16, tn17, tn18, tn19, tn20, tn21, tn22, tn23, tn24, tn25, tn26, tn27, tn28, tn29, tn30, tn31, tn32, tn33, tn34, tn35, tn36, tn37, tn38, tn39, tn40, tn41, tn42, tn43, tn44, tn45, tn46, tn47, tn48, tn49, tn50, tn51, tn52, tn53, tn54, tn55, tn56, tn57, tn58, tn59, tn60, lH_eq, true_and, and_true, mdq_0 HQ.1, h5]
    refine ⟨fun _ => ?_, fun z => absurd (by omega) z⟩
    refine sv_lays (h0 := h0) (h := h) (by omega) m H0 S (fun h2 S2 f2 m2 => ?_)
    have lay : ∀ x, x = 40 ∨ x = 41 → ∀ j, hI h2 (m + x) j = hI h (m + x) j := fun x hx j => by
      rw [f2.2.2.2.2.1 (m + x) (fun z => by
        rcases z with z | ⟨q, hq, z⟩
        · omega
        · have := rows_lt q hq
          omega)]
    rw [rV_none]
    exact k h2 S2 (fun j => by rw [m2]; exact h32 j) (fun a ha w hw => by rw [lay 40 (Or.inl rfl)]; exact HL a ha w hw) (fun j => by rw [lay 41 (Or.inr rfl)]; exact h41 j)
  | l + 1, n, h, hn, S, HQ, HL, h32, h41 => by
    have hw6 := hA.2.1
    refine wX12_couldRule_14 (by omega) m (nI n) ?_
    have h5 : ((60 : Int32) < nI n) = (60 < n) := nI_lt_iff (a := 60) (by omega) (by omega)
    simp only [rt_i, rt_b0, rt_b1, rt_v, rt_l, rt_o, rt_a, rV_none, rI_some, rL_some, rR_some, rT_some, rt_bI, hIf_sL, hIf_sR, hS_sI, hS_sL, hS_sR, hS_cpI, hR_sI, hR_sL, hR_cpI, hL_sI, hL_sR, hL_cpI, hI_sL, hI_sR, hN_sI, hN_sL, hN_sR, hN_cpI, hU_sI, hU_sL, hU_sR, hU_cpI, tn0, tn1, tn2, tn3, tn4, tn5, tn6, tn7, tn8, tn9, tn10, tn11, tn12, tn13, tn14, tn15, tn16, tn17, tn18, tn19, tn20, tn21, tn22, tn23, tn24, tn25, tn26, tn27, tn28, tn29, tn30, tn31, tn32, tn33, tn34, tn35, tn36, tn37, tn38, tn39, tn40, tn41, tn42, tn43, tn44, tn45, tn46, tn47, tn48, tn49, tn50, tn51, tn52, tn53, tn54, tn55, tn56, tn57, tn58, tn59, tn60, lH_eq, true_and, and_true, mdq_0 HQ.1, h5]
    refine ⟨fun z => absurd z (by omega), fun _ => ?_⟩
    refine qc_goes (h := h) (by omega) m nr nw A _ R _ HQ hA (itF_ok hA (begM_ok hA) (by omega) n (by omega)) (fun h3 f3 q3 Q3 => ?_)
    rw [rI_some]
    refine cr27 (by omega) m n (by omega) 6 0 h3 (by omega) Q3.1 (fun h4 f4 q4 => ?_)
    have e6 : ∀ w, w < nw → hI h3 (m + 6) w = itF R A nr nw (n + 1) (begM A) 5 w := fun w hw => (Q3.2.2.1.2.2 w hw).2
    refine cr14 hd m nr nw A R hA H0 f32 f41 k l (n + 1) h4 (by omega) ((S.wr f3 (fun c z => gs_ok z)).wr f4 (fun c z => by omega)) (qc_free Q3 f4 (fun c z => by omega)) (fun a ha w hw => ?_) (fun j => by rw [f4.2.2.2.2.1 (m + 32) (by omega), f3.2.2.2.2.1 (m + 32) (by unfold GS; omega)]; exact h32 j) (fun j => by rw [f4.2.2.2.2.1 (m + 41) (by omega), f3.2.2.2.2.1 (m + 41) (by unfold GS; omega)]; exact h41 j)
    rw [q4]
    by_cases c : a = n
    · subst c
      rw [if_pos (by omega), show 6 * a + w - 6 * a = w by omega]
      exact e6 w hw
    · rw [if_neg (by omega), f3.2.2.2.2.1 (m + 40) (by unfold GS; omega)]
      exact HL a (by omega) w hw
theorem cr68 {d E1 E2 : Nat} {Q : Option Value → AH → Prop} {h : AH} (hd : 4 ≤ d) (m nr nw : Nat) (A : PC) (R : Option (List (List (Nat × Nat) × List (Nat × Nat)))) (cls : List (List (List (Nat × Nat) × List (Nat × Nat)))) (ns : List (Nat × Nat × Int32)) (hw6 : nw ≤ 6) (H : ModAt h m) (HL : QL h m nr nw cls ns) (HY : LY h m nr nw R A 61) (e1 : hN h = E1) (e2 : hU h = E2) (k1 : fitP R A nr nw ns → Q (some (.int 1)) h) (k0 : ¬ fitP R A nr nw ns → Q (some (.int 0)) h) : ∀ n i : Nat, i + n = ns.length → ((∀ (k : Nat) (q : Nat × Nat × Int32), i ≤ k → ns[k]? = some q → itF R A nr nw (q.1 + 1) (begM A) 5 q.2.1 = q.2.2) → fitP R A nr nw ns) → Reach d nX12_couldRule (68, [.ref m, .float 0, .int (nI i), .float 0], []) h E1 E2 Q
  | 0, i, hi, he => by
    have : i = ns.length := by omega
    subst this
    have h10 := HL.2.2.2.2.2.1
    refine wX12_couldRule_68 hd m (nI ns.length) ?_
    simp only [rt_i, rt_b0, rt_b1, rt_v, rt_l, rt_o, rt_a, rV_none, rI_some, rL_some, rR_some, rT_some, rt_bI, hIf_sL, hIf_sR, hS_sI, hS_sL, hS_sR, hS_cpI, hR_sI, hR_sL, hR_cpI, hL_sI, hL_sR, hL_cpI, hI_sL, hI_sR, hN_sI, hN_sL, hN_sR, hN_cpI, hU_sI, hU_sL, hU_sR, hU_cpI, tn0, tn1, tn2, tn3, tn4, tn5, tn6, tn7, tn8, tn9, tn10, tn11, tn12, tn13, tn14, tn15, tn16, tn17, tn18, tn19, tn20, tn21, tn22, tn23, tn24, tn25, tn26, tn27, tn28, tn29, tn30, tn31, tn32, tn33, tn34, tn35, tn36, tn37, tn38, tn39, tn40, tn41, tn42, tn43, tn44, tn45, tn46, tn47, tn48, tn49, tn50, tn51, tn52, tn53, tn54, tn55, tn56, tn57, tn58, tn59, tn60, lH_eq, true_and, and_true, mdq_0 H, mdq_1 H, mds_1 H, vl7_0, vl7_1, vl7_2, vl7_3, vl7_4, vl7_5, vl7_6, HL.2.2.2.1, nI_le_iff (show ns.length < 2 ^ 31 by omega) (show ns.length < 2 ^ 31 by omega)]
    exact ⟨fun _ => ⟨e1, e2, k1 (he (fun k q hk hq => by have := getq_lt hq; omega))⟩, fun z => absurd (Nat.le_refl _) z⟩
  | n + 1, i, hi, he => by
    have ih := cr68 hd m nr nw A R cls ns hw6 H HL HY e1 e2 k1 k0 n (i + 1) (by omega)
    have h10 := HL.2.2.2.2.2.1
    obtain ⟨q, hq⟩ : ∃ q, ns[i]? = some q := ⟨ns[i]'(by omega), List.getElem?_eq_getElem (by omega)⟩
    obtain ⟨q60, qw⟩ := HL.2.2.2.2.2.2 i q hq
    have hn := HL.2.2.2.2.1 i q hq
    have i1 : 6 * nI q.1 + nI q.2.1 = nI (6 * q.1 + q.2.1) := by rw [← nI_add, ← pk_mul]; rfl
    have nx : itF R A nr nw (q.1 + 1) (begM A) 5 q.2.1 = q.2.2 → Reach d nX12_couldRule (68, [.ref m, .float 0, .int (nI (i + 1)), .float 0], []) h E1 E2 Q := fun z => ih (fun y => he (fun k p hk hp => by
      by_cases c : k = i
      · subst c
        rw [hq] at hp
        cases hp
        exact z
      · exact y k p (by omega) hp))
    refine wX12_couldRule_68 hd m (nI i) ?_
    simp only [rt_i, rt_b0, rt_b1, rt_v, rt_l, rt_o, rt_a, rV_none, rI_some, rL_some, rR_some, rT_some, rt_bI, hIf_sL, hIf_sR, hS_sI, hS_sL, hS_sR, hS_cpI, hR_sI, hR_sL, hR_cpI, hL_sI, hL_sR, hL_cpI, hI_sL, hI_sR, hN_sI, hN_sL, hN_sR, hN_cpI, hU_sI, hU_sL, hU_sR, hU_cpI, tn0, tn1, tn2, tn3, tn4, tn5, tn6, tn7, tn8, tn9, tn10, tn11, tn12, tn13, tn14, tn15, tn16, tn17, tn18, tn19, tn20, tn21, tn22, tn23, tn24, tn25, tn26, tn27, tn28, tn29, tn30, tn31, tn32, tn33, tn34, tn35, tn36, tn37, tn38, tn39, tn40, tn41, tn42, tn43, tn44, tn45, tn46, tn47, tn48, tn49, tn50, tn51, tn52, tn53, tn54, tn55, tn56, tn57, tn58, tn59, tn60, lH_eq, true_and, and_true, mdq_0 H, mdq_1 H, mds_1 H, mdq_9 H, mds_9 H, mdq_10 H, mds_10 H, mdq_11 H, mds_11 H, mdq_53 H, mds_53 H, vl7_0, vl7_1, vl7_2, vl7_3, vl7_4, vl7_5, vl7_6, HL.2.2.2.1, nI_le_iff (show ns.length < 2 ^ 31 by omega) (show i < 2 ^ 31 by omega), vp_in_nI (show i < 10 by omega) (show 10 < 2 ^ 31 by omega), nI_clamp (show i < 2 ^ 31 by omega), hn.1, hn.2.1, hn.2.2, i1, vp_in_nI (show 6 * q.1 + q.2.1 < 366 by omega) (show 366 < 2 ^ 31 by omega), nI_clamp (show 6 * q.1 + q.2.1 < 2 ^ 31 by omega), HY q.1 (by omega) q.2.1 qw, nI_1]
    refine ⟨fun z => absurd z (by omega), fun _ => ⟨fun z => nx z, fun z => ⟨e1, e2, k0 (fun y => z (y i q hq))⟩⟩⟩
theorem m_couldRule {d : Nat} {h : AH} {Q : Option Value → AH → Prop} {h0 : AH} (hd : 12 ≤ d) (m nr nw i : Nat) (A M : PC) (R : Option (List (List (Nat × Nat) × List (Nat × Nat)))) (cls : List (List (List (Nat × Nat) × List (Nat × Nat)))) (ns : List (Nat × Nat × Int32)) (hA : hilOk nr nw A) (H0 : QK h0 m nr nw A M R) (L0 : QL h0 m nr nw cls ns) (hi : i ≤ cls.length) (S : Rs h0 h m) (h5 : M5 h m) (k : ∀ h', Rs h0 h' m → M5 h' m → LY h' m nr nw (Rr cls i) A 61 → (∀ j, hI h' (m + 41) j = hI h (m + 41) j) → Q (some (.int (bI (ftB cls A nr nw ns i = true)))) h') : Calls d nX12_couldRule [.ref m, .int (cI i)] h (hN h) (hU h) Q := by
  obtain ⟨e, rfl⟩ : ∃ e, d = e + 1 := ⟨d - 1, by omega⟩
  have HQ := H0.rs S h5
  have HL := L0.rs S
  have HM := HQ.1.1
  have hr5 := hA.1
  have hw6 := hA.2.1
  refine wX12_couldRule (by omega) m (cI i) ?_
  simp only [rt_i, rt_b0, rt_b1, rt_v, rt_l, rt_o, rt_a, rV_none, rI_some, rL_some, rR_some, rT_some, rt_bI, hIf_sL, hIf_sR, hS_sI, hS_sL, hS_sR, hS_cpI, hR_sI, hR_sL, hR_cpI, hL_sI, hL_sR, hL_cpI, hI_sL, hI_sR, hN_sI, hN_sL, hN_sR, hN_cpI, hU_sI, hU_sL, hU_sR, hU_cpI, tn0, tn1, tn2, tn3, tn4, tn5, tn6, tn7, tn8, tn9, tn10, tn11, tn12, tn13, tn14, tn15, tn16, tn17, tn18, tn19, tn20, tn21, tn22, tn23, tn24, tn25, tn26, tn27, tn28, tn29, tn30, tn31, tn32, tn33, tn34, tn35, tn36, tn37, tn38, tn39, tn40, tn41, tn42, tn43, tn44, tn45, tn46, tn47, tn48, tn49, tn50, tn51, tn52, tn53, tn54, tn55, tn56, tn57, tn58, tn59, tn60, lH_eq, true_and, and_true, mdq_0 HM, mdq_1 HM, mds_1 HM, vl7_0, vl7_1, vl7_2, vl7_3, vl7_4, vl7_5, vl7_6]
  have f1 : Fr' h (sI h (m + 1) 6 (cI i)) (fun c => c = m + 1) := Fr'.sI rfl
  refine m_begins (h := sI h (m + 1) 6 (cI i)) (by omega) m (HM.fr f1) (fun h2 f2 q1 q5 q6 => ?_)
  rw [rV_none]
  have f12 : Fr' h h2 (fun c => m + 1 ≤ c ∧ c ≤ m + 6) := (f1.mono (fun c z => by omega)).trans f2
  have e6 : hI h2 (m + 1) 6 = cI i := by rw [q1, if_neg (by decide), hI_sI, if_pos rfl, if_pos rfl]
  have HF : MFor h2 m (Rr cls i) := mfor_of hi (fun j c hc => (HL.2.2.1 j c hc).cg (fun b h1 h2 j => f12.2.2.2.2.1 b (by omega) j)) e6
  have HB := qc_beg hr5 hw6 HQ.1 f12 (fun j hj => by rw [q1, if_neg (by omega), hI_sI, if_pos rfl, if_neg (by omega)]) (by rw [q1, if_pos rfl]) (fun j hj => by rw [(q5 j hj).1, (q5 j hj).2.1, (q5 j hj).2.2, hI_sI, if_neg (by omega), hI_sI, if_neg (by omega)]; exact ⟨rfl, rfl, rfl⟩) (fun j hj => by rw [(q6 j hj).1, (q6 j hj).2, hI_sI, if_neg (by omega)]; exact ⟨rfl, rfl⟩) HF
  have S2 := S.1.wr f12 (fun c z => by omega)
  refine cr14 (h0 := h0) (by omega) m nr nw A (Rr cls i) hA H0.1.1 (fun j => hI h (m + 32) j) (fun j => hI h (m + 41) j) (fun h' S' h32 HY h41 => ?_) 61 0 h2 (by omega) S2 HB (fun a ha => absurd ha (Nat.not_lt_zero a)) (fun j => f12.2.2.2.2.1 (m + 32) (by omega) j) (fun j => f12.2.2.2.2.1 (m + 41) (by omega) j)
  have M' : M5 h' m := fun j hj => by rw [h32]; exact h5 j hj
  have kk := k h' S' M' HY h41
  have e3 := S'.1.1
  have e4 := S.1.1
  refine cr68 (by omega) m nr nw A (Rr cls i) cls ns hw6 (H0.1.1.fr e3) (L0.rs S') HY (e3.2.2.1.trans e4.2.2.1.symm) (e3.2.2.2.1.trans e4.2.2.2.1.symm) (fun z => ?_) (fun z => ?_) ns.length 0 (by omega) (fun y k q hq => y k q (Nat.zero_le k) hq)
  · rw [← ftB_t] at z
    rwa [bI_t z] at kk
  · rw [← ftB_t] at z
    rwa [bI_f z] at kk
