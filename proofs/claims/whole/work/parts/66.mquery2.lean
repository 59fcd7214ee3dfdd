theorem Sv.wr {h0 h h' : AH} {m : Nat} {S : Nat → Prop} (H : Sv h0 h m) (f : Fr' h h' S) (hs : ∀ c, S c → (m + 1 ≤ c ∧ c ≤ m + 6) ∨ (m + 29 ≤ c ∧ c ≤ m + 32) ∨ (m + 35 ≤ c ∧ c ≤ m + 41)) : Sv h0 h' m := by
  obtain ⟨s1, s2, s3, s4, s5⟩ := H
  have no : ∀ c, ¬ ((m + 1 ≤ c ∧ c ≤ m + 6) ∨ (m + 29 ≤ c ∧ c ≤ m + 32) ∨ (m + 35 ≤ c ∧ c ≤ m + 41)) → ∀ j, hI h' c j = hI h c j := fun c hc j => f.2.2.2.2.1 c (fun z => hc (hs c z)) j
  refine ⟨s1.trans (f.mono (fun c z => by have := hs c z; unfold QW; omega)), fun j j1 j2 => ?_, fun r hr j hj => ?_, fun j hj => ?_, fun r hr j => ?_⟩
  · rw [no m (by omega)]; exact s2 j j1 j2
  · rw [no (m + 42) (by omega)]; exact s3 r hr j hj
  · rw [no (m + 42) (by omega)]; exact s4 j hj
  · have h1 := nine_rows r hr
    have : ∀ r ∈ nine, r ≤ 14 ∨ r = 33 := by decide
    have h2 := this r hr
    rw [no (m + r) (by omega)]; exact s5 r hr j
theorem gs_ok {m c : Nat} (z : GS m c) : (m + 1 ≤ c ∧ c ≤ m + 6) ∨ (m + 29 ≤ c ∧ c ≤ m + 32) ∨ (m + 35 ≤ c ∧ c ≤ m + 41) := by
  unfold GS at z
  omega
theorem rs_rM {h0 h : AH} {m nr nw : Nat} {M : PC} (hr5 : nr ≤ 5) (hw6 : nw ≤ 6) (H : eqM nr nw (rM h0 m) M) (e : ∀ r ∈ six, ∀ j, j < lnR r → hI h (m + r) j = hI h0 (m + r) j) : eqM nr nw (rM h m) M := by
  obtain ⟨h1, h2, h3⟩ := H
  refine ⟨?_, fun j hj => ⟨?_, ?_, ?_⟩, fun j hj => ⟨?_, ?_⟩⟩
  · rw [← h1]; exact e 1 (by decide) 3 (by decide)
  · rw [← (h2 j hj).1]; exact e 4 (by decide) j (by simp only [lnR]; omega)
  · rw [← (h2 j hj).2.1]; exact e 2 (by decide) j (by simp only [lnR]; omega)
  · rw [← (h2 j hj).2.2]; exact e 3 (by decide) j (by simp only [lnR]; omega)
  · rw [← (h3 j hj).1]; exact e 5 (by decide) j (by simp only [lnR]; omega)
  · rw [← (h3 j hj).2]; exact e 6 (by decide) j (by simp only [lnR]; omega)
theorem rs_qc {h0 h : AH} {m nr nw : Nat} {A M : PC} {R : Option (List (List (Nat × Nat) × List (Nat × Nat)))} {od od' : Nat → Option Int32} (hr5 : nr ≤ 5) (hw6 : nw ≤ 6) (H : QC h0 m nr nw A M R od) (S : Rs h0 h m) (ho : MOrd h m nr od') : QC h m nr nw A M R od' := by
  obtain ⟨H0, ⟨a1, a2, a3, a4, a5⟩, H2, H3, H4⟩ := H
  obtain ⟨⟨s1, s2, s3, s4, s5⟩, s6⟩ := S
  have e1 : ∀ j, j < 7 → hI h (m + 1) j = hI h0 (m + 1) j := fun j hj => s6 1 (by decide) j hj
  have eA : rA h m = rA h0 m := by
    funext k j
    unfold rA
    split
    · exact e1 0 (by decide)
    · exact s5 12 (by decide) j
    · exact s5 13 (by decide) j
    · exact s5 14 (by decide) j
    · exact s5 7 (by decide) j
    · exact s5 8 (by decide) j
  refine ⟨H0.fr s1, ⟨?_, ?_, by rw [eA]; exact a3, by rw [eA]; exact a4, by rw [eA]; exact a5⟩, rs_rM hr5 hw6 H2 s6, H3.cg (fun b h1 h2 => s1.2.2.2.2.1 b (by unfold QW; omega)) (e1 6 (by decide)), ho⟩
  · rw [e1 1 (by decide)]; exact a1
  · rw [e1 2 (by decide)]; exact a2
def M5 (h : AH) (m : Nat) : Prop := ∀ j, j < 5 → hI h (m + 32) j = -5
theorem M5.ord {h : AH} {m nr : Nat} (H : M5 h m) (hr : nr ≤ 5) : MOrd h m nr (fun _ => none) := fun j hj => ⟨H j (by omega), fun z => by cases z⟩
theorem rn_of {a : Int32} {n : Nat} (hn : n < 2 ^ 31) (h : 0 ≤ a ∧ a < nI n) : ∃ r, r < n ∧ a = nI r := by
  obtain ⟨j, hj, rfl⟩ := nI_of (Int32.not_lt.mpr h.1)
  exact ⟨j, (nI_ltI hj hn).mp h.2, rfl⟩
theorem rg_of {a b : Int32} {n : Nat} (hb : b = nI n) (hn : n < 2 ^ 31) (h : 0 ≤ a ∧ a ≤ b) : ∃ r, r ≤ n ∧ a = nI r := by
  subst hb
  obtain ⟨j, hj, rfl⟩ := nI_of (Int32.not_lt.mpr h.1)
  exact ⟨j, (nI_leI hj hn).mp h.2, rfl⟩
/-- what a question needs to know of the reference before it -/
def QK (h : AH) (m nr nw : Nat) (A M : PC) (R : Option (List (List (Nat × Nat) × List (Nat × Nat)))) : Prop := QC h m nr nw A M R (fun _ => none) ∧ M5 h m ∧ nr ≤ 5 ∧ nw ≤ 6 ∧ ((A 0 0 = 0 ∧ nr = 0 ∧ nw = 0) ∨ (hilOk nr nw A ∧ momOk 999 nr nw M))
theorem QK.of_r {h : AH} {m nr nw : Nat} {A M : PC} {R : Option (List (List (Nat × Nat) × List (Nat × Nat)))} (H : QK h m nr nw A M R) (hr : 0 < nr) : hilOk nr nw A ∧ momOk 999 nr nw M := by
  rcases H.2.2.2.2 with h1 | h1
  · omega
  · exact h1
theorem QK.rs {h0 h : AH} {m nr nw : Nat} {A M : PC} {R : Option (List (List (Nat × Nat) × List (Nat × Nat)))} (H : QK h0 m nr nw A M R) (S : Rs h0 h m) (ho : M5 h m) : QK h m nr nw A M R := ⟨rs_qc H.2.2.1 H.2.2.2.1 H.1 S (ho.ord H.2.2.1), ho, H.2.2⟩
/-- days, then back: what one has then -/
theorem q_days {d : Nat} {h : AH} {Q : Option Value → AH → Prop} {h0 : AH} (hd : 13 ≤ d) (m nr nw n : Nat) (A N : PC) (R : Option (List (List (Nat × Nat) × List (Nat × Nat)))) {D : Int} (hD : D ≤ 50000) (hn : n ≤ 100) (hA : hilOk nr nw A) (hN0 : momOk D nr nw N) (H0 : ModAt h0 m) (S : Sv h0 h m) (H : QC h m nr nw A N R (fun _ => none)) (k : ∀ h', Sv h0 h' m → QC h' m nr nw A (itF R A nr nw n N) R (fun _ => none) → (∀ j, hI h' (m + 32) j = hI h (m + 32) j) → (∀ j, j ≠ 3 → hI h' (m + 1) j = hI h (m + 1) j) → Q none h') : Calls d nX12_goFor [.ref m, .int (nI n)] h (hN h) (hU h) Q :=
  qc_goFor (by omega) m nr nw A N R n (by omega) (by omega) hA hN0 H (fun h' f q1 q2 => k h' (S.wr f (fun c z => gs_ok z)) q2 (f.2.2.2.2.1 (m + 32) (by unfold GS; omega)) q1)
theorem q_wealthIn {d : Nat} {h : AH} {Q : Option Value → AH → Prop} {h0 : AH} (hd : 14 ≤ d) (m nr nw r n : Nat) (A N : PC) (R : Option (List (List (Nat × Nat) × List (Nat × Nat)))) {D : Int} (hD : D ≤ 50000) (hn : n ≤ 100) (hr : r < nr) (hA : hilOk nr nw A) (hN0 : momOk D nr nw N) (H0 : ModAt h0 m) (S : Sv h0 h m) (H : QC h m nr nw A N R (fun _ => none)) (k : ∀ h', Rs h0 h' m → (∀ j, hI h' (m + 32) j = hI h (m + 32) j) → Q (some (.int (itF R A nr nw n N 3 r))) h') : Calls d nX12_wealthIn [.ref m, .int (nI r), .int (nI n)] h (hN h) (hU h) Q := by
  obtain ⟨e, rfl⟩ : ∃ e, d = e + 1 := ⟨d - 1, by omega⟩
  have hr5 := hA.1
  refine wX12_wealthIn (by omega) m (nI r) (nI n) ?_
  simp only [rt_i, rt_b0, rt_b1, rt_v, rt_l, rt_o, rt_a, rV_none, rI_some, rL_some, rR_some, rT_some, rt_bI, hIf_sL, hIf_sR, hS_sI, hS_sL, hS_sR, hS_cpI, hR_sI, hR_sL, hR_cpI, hL_sI, hL_sR, hL_cpI, hI_sL, hI_sR, hN_sI, hN_sL, hN_sR, hN_cpI, hU_sI, hU_sL, hU_sR, hU_cpI, tn0, tn1, tn2, tn3, tn4, tn5, tn6, tn7, tn8, tn9, tn10, tn11, tn12, tn13, tn14, tn15, tn16, tn17, tn18, tn19, tn20, tn21, tn22, tn23, tn24, tn25, tn26, tn27, tn28, tn29, tn30, tn31, tn32, tn33, tn34, tn35, tn36, tn37, tn38, tn39, tn40, tn41, tn42, tn43, tn44, tn45, tn46, tn47, tn48, tn49, tn50, tn51, tn52, tn53, tn54, tn55, tn56, tn57, tn58, tn59, tn60, lH_eq, true_and, and_true, mdq_0 H.1]
  refine q_days (h0 := h0) (by omega) m nr nw n A N R hD hn hA hN0 H0 S H (fun h1 S1 H1 m1 _ => ?_)
  have ew : hI h1 (m + 3) r = itF R A nr nw n N 3 r := (H1.2.2.1.2.1 r hr).2.2
  have HM := H1.1
  simp only [rV_none, rt_i, rt_b0, rt_b1, rt_v, rt_l, rt_o, rt_a, rV_none, rI_some, rL_some, rR_some, rT_some, rt_bI, hIf_sL, hIf_sR, hS_sI, hS_sL, hS_sR, hS_cpI, hR_sI, hR_sL, hR_cpI, hL_sI, hL_sR, hL_cpI, hI_sL, hI_sR, hN_sI, hN_sL, hN_sR, hN_cpI, hU_sI, hU_sL, hU_sR, hU_cpI, tn0, tn1, tn2, tn3, tn4, tn5, tn6, tn7, tn8, tn9, tn10, tn11, tn12, tn13, tn14, tn15, tn16, tn17, tn18, tn19, tn20, tn21, tn22, tn23, tn24, tn25, tn26, tn27, tn28, tn29, tn30, tn31, tn32, tn33, tn34, tn35, tn36, tn37, tn38, tn39, tn40, tn41, tn42, tn43, tn44, tn45, tn46, tn47, tn48, tn49, tn50, tn51, tn52, tn53, tn54, tn55, tn56, tn57, tn58, tn59, tn60, lH_eq, true_and, and_true, mdq_0 HM, mdq_3 HM, mds_3 HM, vp_in_nI (show r < 5 by omega) (show 5 < 2 ^ 31 by omega), nI_clamp (show r < 2 ^ 31 by omega), ew]
  refine sv_lays (h0 := h0) (by omega) m H0 S1 (fun h2 S2 f2 m2 => ?_)
  simp only [rV_none, rt_i, rt_b0, rt_b1, rt_v, rt_l, rt_o, rt_a, rV_none, rI_some, rL_some, rR_some, rT_some, rt_bI, hIf_sL, hIf_sR, hS_sI, hS_sL, hS_sR, hS_cpI, hR_sI, hR_sL, hR_cpI, hL_sI, hL_sR, hL_cpI, hI_sL, hI_sR, hN_sI, hN_sL, hN_sR, hN_cpI, hU_sI, hU_sL, hU_sR, hU_cpI, tn0, tn1, tn2, tn3, tn4, tn5, tn6, tn7, tn8, tn9, tn10, tn11, tn12, tn13, tn14, tn15, tn16, tn17, tn18, tn19, tn20, tn21, tn22, tn23, tn24, tn25, tn26, tn27, tn28, tn29, tn30, tn31, tn32, tn33, tn34, tn35, tn36, tn37, tn38, tn39, tn40, tn41, tn42, tn43, tn44, tn45, tn46, tn47, tn48, tn49, tn50, tn51, tn52, tn53, tn54, tn55, tn56, tn57, tn58, tn59, tn60, lH_eq, true_and, and_true]
  have e1 := S2.1.1
  have e0 := S.1
  refine ⟨?_, ?_, k h2 S2 (fun j => (m2 j).trans (m1 j))⟩
  · rw [e1.2.2.1, e0.2.2.1]
  · rw [e1.2.2.2.1, e0.2.2.2.1]
theorem fg2_loop {d E1 E2 : Nat} {Q : Option Value → AH → Prop} {h : AH} (hd : 4 ≤ d) (m nw : Nat) (v : Int32) (N : PC) {nr : Nat} (H : ModAt h m) (hw6 : nw ≤ 6) (hn2 : hI h (m + 1) 2 = nI nw) (HN : eqM nr nw (rM h m) N) (e1 : hN h = E1) (e2 : hU h = E2) (k : Q (some (.int (foV (-1) (fwF (N 5) v nw 0)))) h) : ∀ n i : Nat, i + n = nw → fwF (N 5) v nw 0 = fwF (N 5) v n i → Reach d nX12_firstGot (2, [.ref m, .int v, .int (nI i)], []) h E1 E2 Q
  | 0, i, hi, he => by
    have : i = nw := by omega
    subst this
    refine wX12_firstGot_2 hd m v (nI i) ?_
    simp only [rt_i, rt_b0, rt_b1, rt_v, rt_l, rt_o, rt_a, rV_none, rI_some, rL_some, rR_some, rT_some, rt_bI, hIf_sL, hIf_sR, hS_sI, hS_sL, hS_sR, hS_cpI, hR_sI, hR_sL, hR_cpI, hL_sI, hL_sR, hL_cpI, hI_sL, hI_sR, hN_sI, hN_sL, hN_sR, hN_cpI, hU_sI, hU_sL, hU_sR, hU_cpI, tn0, tn1, tn2, tn3, tn4, tn5, tn6, tn7, tn8, tn9, tn10, tn11, tn12, tn13, tn14, tn15, tn16, tn17, tn18, tn19, tn20, tn21, tn22, tn23, tn24, tn25, tn26, tn27, tn28, tn29, tn30, tn31, tn32, tn33, tn34, tn35, tn36, tn37, tn38, tn39, tn40, tn41, tn42, tn43, tn44, tn45, tn46, tn47, tn48, tn49, tn50, tn51, tn52, tn53, tn54, tn55, tn56, tn57, tn58, tn59, tn60, lH_eq, true_and, and_true, mdq_0 H, mdq_1 H, mds_1 H, vl7_0, vl7_1, vl7_2, vl7_3, vl7_4, vl7_5, vl7_6, hn2, nI_le_iff (show i < 2 ^ 31 by omega) (show i < 2 ^ 31 by omega)]
    rw [he] at k
    exact ⟨fun _ => ⟨e1, e2, k⟩, fun z => absurd (Nat.le_refl i) z⟩
  | n + 1, i, hi, he => by
    have ih := fg2_loop hd m nw v N H hw6 hn2 HN e1 e2 k n (i + 1) (by omega)
    have e5 : hI h (m + 6) i = N 5 i := (HN.2.2 i (by omega)).2
    refine wX12_firstGot_2 hd m v (nI i) ?_
    simp only [rt_i, rt_b0, rt_b1, rt_v, rt_l, rt_o, rt_a, rV_none, rI_some, rL_some, rR_some, rT_some, rt_bI, hIf_sL, hIf_sR, hS_sI, hS_sL, hS_sR, hS_cpI, hR_sI, hR_sL, hR_cpI, hL_sI, hL_sR, hL_cpI, hI_sL, hI_sR, hN_sI, hN_sL, hN_sR, hN_cpI, hU_sI, hU_sL, hU_sR, hU_cpI, tn0, tn1, tn2, tn3, tn4, tn5, tn6, tn7, tn8, tn9, tn10, tn11, tn12, tn13, tn14, tn15, tn16, tn17, tn18, tn19, tn20, tn21, tn22, tn23, tn24, tn25, tn26, tn27, tn28, tn29, tn30, tn31, tn32, tn33, tn34, tn35, tn36, tn37, tn38, tn39, tn40, tn41, tn42, tn43, tn44, tn45, tn46, tn47, tn48, tn49, tn50, tn51, tn52, tn53, tn54, tn55, tn56, tn57, tn58, tn59, tn60, lH_eq, true_and, and_true, mdq_0 H, mdq_1 H, mds_1 H, mdq_6 H, mds_6 H, vl7_0, vl7_1, vl7_2, vl7_3, vl7_4, vl7_5, vl7_6, hn2, nI_le_iff (show nw < 2 ^ 31 by omega) (show i < 2 ^ 31 by omega), vp_in_nI (show i < 6 by omega) (show 6 < 2 ^ 31 by omega), nI_clamp (show i < 2 ^ 31 by omega), e5, nI_1]
    simp only [fwF] at he
    refine ⟨fun z => absurd z (by omega), fun _ => ⟨fun z => ?_, fun z => ?_⟩⟩
    · rw [if_neg z] at he
      exact ih he
    · rw [if_pos z] at he
      rw [he] at k
      exact ⟨e1, e2, k⟩
theorem m_firstGot {d : Nat} {h : AH} {Q : Option Value → AH → Prop} (hd : 5 ≤ d) (m nw : Nat) (v : Int32) (N : PC) {nr : Nat} (H : ModAt h m) (hw6 : nw ≤ 6) (hn2 : hI h (m + 1) 2 = nI nw) (HN : eqM nr nw (rM h m) N) (k : Q (some (.int (foV (-1) (fwF (N 5) v nw 0)))) h) : Calls d nX12_firstGot [.ref m, .int v] h (hN h) (hU h) Q := by
  obtain ⟨e, rfl⟩ : ∃ e, d = e + 1 := ⟨d - 1, by omega⟩
  exact wX12_firstGot (by omega) m v (fg2_loop (by omega) m nw v N H hw6 hn2 HN rfl rfl k nw 0 (by omega) rfl)
theorem fwF_lt {G : Nat → Int32} {v : Int32} : ∀ {n i w : Nat}, fwF G v n i = some w → i ≤ w ∧ w < i + n
  | 0, i, w, h => by cases h
  | n + 1, i, w, h => by
    simp only [fwF] at h
    split at h
    · cases h; omega
    · have := fwF_lt h; omega
/-- the day or the ware at which one first gets something -/
theorem ge_loop {d E1 E2 : Nat} {Q : Option Value → AH → Prop} {h0 : AH} (hd : 13 ≤ d) (m nr nw : Nat) (A : PC) (R : Option (List (List (Nat × Nat) × List (Nat × Nat)))) (v wh : Int32) (hA : hilOk nr nw A) (H0 : ModAt h0 m) (e1 : hN h0 = E1) (e2 : hU h0 = E2) (X : Int32) (k : ∀ h', Rs h0 h' m → (∀ j, hI h' (m + 32) j = hI h0 (m + 32) j) → Q (some (.int X)) h') : ∀ (n i : Nat) (N : PC) (h : AH), i + n = 100 → (∃ D : Int, D + n ≤ 50000 ∧ momOk D nr nw N) → Sv h0 h m → QC h m nr nw A N R (fun _ => none) → (∀ j, hI h (m + 32) j = hI h0 (m + 32) j) → X = fgF R A nr nw v wh n N → Reach d nX12_gets (30, [.ref m, .int v, .int wh, .int (-2), .int (nI i), .float 0], []) h E1 E2 Q
  | 0, i, N, h, hi, hD, S, H, hm, hX => by
    have : i = 100 := by omega
    subst this
    refine wX12_gets_30 (by omega) m v wh (-2) (nI 100) ?_
    simp only [rt_i, rt_b0, rt_b1, rt_v, rt_l, rt_o, rt_a, rV_none, rI_some, rL_some, rR_some, rT_some, rt_bI, hIf_sL, hIf_sR, hS_sI, hS_sL, hS_sR, hS_cpI, hR_sI, hR_sL, hR_cpI, hL_sI, hL_sR, hL_cpI, hI_sL, hI_sR, hN_sI, hN_sL, hN_sR, hN_cpI, hU_sI, hU_sL, hU_sR, hU_cpI, tn0, tn1, tn2, tn3, tn4, tn5, tn6, tn7, tn8, tn9, tn10, tn11, tn12, tn13, tn14, tn15, tn16, tn17, tn18, tn19, tn20, tn21, tn22, tn23, tn24, tn25, tn26, tn27, tn28, tn29, tn30, tn31, tn32, tn33, tn34, tn35, tn36, tn37, tn38, tn39, tn40, tn41, tn42, tn43, tn44, tn45, tn46, tn47, tn48, tn49, tn50, tn51, tn52, tn53, tn54, tn55, tn56, tn57, tn58, tn59, tn60, lH_eq, true_and, and_true, mdq_0 H.1]
    refine ⟨fun _ => ?_, fun z => absurd (by decide) z⟩
    refine sv_lays (h0 := h0) (by omega) m H0 S (fun h2 S2 f2 m2 => ?_)
    simp only [rV_none, rt_i, rt_b0, rt_b1, rt_v, rt_l, rt_o, rt_a, rV_none, rI_some, rL_some, rR_some, rT_some, rt_bI, hIf_sL, hIf_sR, hS_sI, hS_sL, hS_sR, hS_cpI, hR_sI, hR_sL, hR_cpI, hL_sI, hL_sR, hL_cpI, hI_sL, hI_sR, hN_sI, hN_sL, hN_sR, hN_cpI, hU_sI, hU_sL, hU_sR, hU_cpI, tn0, tn1, tn2, tn3, tn4, tn5, tn6, tn7, tn8, tn9, tn10, tn11, tn12, tn13, tn14, tn15, tn16, tn17, tn18, tn19, tn20, tn21, tn22, tn23, tn24, tn25, tn26, tn27, tn28, tn29, tn30, tn31, tn32, tn33, tn34, tn35, tn36, tn37, tn38, tn39, tn40, tn41, tn42, tn43, tn44, tn45, tn46, tn47, tn48, tn49, tn50, tn51, tn52, tn53, tn54, tn55, tn56, tn57, tn58, tn59, tn60, lH_eq, true_and, and_true]
    have e3 := S2.1.1
    have := k h2 S2 (fun j => (m2 j).trans (hm j))
    rw [hX] at this
    exact ⟨e3.2.2.1.trans e1, e3.2.2.2.1.trans e2, this⟩
  | n + 1, i, N, h, hi, ⟨D, hD, hN0⟩, S, H, hm, hX => by
    have hr5 := hA.1
    have hw6 := hA.2.1
    have h10 : (100 ≤ nI i) = (100 ≤ i) := nI_le_iff (a := 100) (by decide) (by omega)
    refine wX12_gets_30 (by omega) m v wh (-2) (nI i) ?_
    simp only [rt_i, rt_b0, rt_b1, rt_v, rt_l, rt_o, rt_a, rV_none, rI_some, rL_some, rR_some, rT_some, rt_bI, hIf_sL, hIf_sR, hS_sI, hS_sL, hS_sR, hS_cpI, hR_sI, hR_sL, hR_cpI, hL_sI, hL_sR, hL_cpI, hI_sL, hI_sR, hN_sI, hN_sL, hN_sR, hN_cpI, hU_sI, hU_sL, hU_sR, hU_cpI, tn0, tn1, tn2, tn3, tn4, tn5, tn6, tn7, tn8, tn9, tn10, tn11, tn12, tn13, tn14, tn15, tn16, tn17, tn18, tn19, tn20, tn21, tn22, tn23, tn24, tn25, tn26, tn27, tn28, tn29, tn30, tn31, tn32, tn33, tn34, tn35, tn36, tn37, tn38, tn39, tn40, tn41, tn42, tn43, tn44, tn45, tn46, tn47, tn48, tn49, tn50, tn51, tn52, tn53, tn54, tn55, tn56, tn57, tn58, tn59, tn60, lH_eq, true_and, and_true, mdq_0 H.1, h10]
    refine ⟨fun z => absurd z (by omega), fun _ => ⟨fun z => absurd (by trivial) z, fun _ => ?_⟩⟩
    refine qc_goes (by omega) m nr nw A N R _ H hA hN0 (fun h1 f1 q1 H1 => ?_)
    have S1 := S.wr f1 (fun c z => gs_ok z)
    have m1 : ∀ j, hI h1 (m + 32) j = hI h0 (m + 32) j := fun j => (f1.2.2.2.2.1 (m + 32) (by unfold GS; omega) j).trans (hm j)
    simp only [rI_some, f1.1, mdq_0 H.1, true_and]
    refine m_firstGot (by omega) m nw v _ H1.1 hw6 H1.2.1.2.1 H1.2.2.1 ?_
    have H1M := H1.1
    have hok1 := paF_ok (R := R) (od := fun _ => none) (by omega) hA hN0
    have ed : hI h1 (m + 1) 3 = N 0 0 + 1 := H1.2.2.1.1
    have e11 : N 0 0 + 1 - 1 = N 0 0 := by grind
    have fin : ∀ (X' : Int32), X' ≠ -2 → X = X' → Reach d nX12_gets (30, [.ref m, .int v, .int wh, .int X', .int (nI i + 1), .float 0], []) h1 E1 E2 Q := fun X' hx hX' => by
      refine wX12_gets_30 (by omega) m v wh X' (nI i + 1) ?_
      simp only [rt_i, rt_b0, rt_b1, rt_v, rt_l, rt_o, rt_a, rV_none, rI_some, rL_some, rR_some, rT_some, rt_bI, hIf_sL, hIf_sR, hS_sI, hS_sL, hS_sR, hS_cpI, hR_sI, hR_sL, hR_cpI, hL_sI, hL_sR, hL_cpI, hI_sL, hI_sR, hN_sI, hN_sL, hN_sR, hN_cpI, hU_sI, hU_sL, hU_sR, hU_cpI, tn0, tn1, tn2, tn3, tn4, tn5, tn6, tn7, tn8, tn9, tn10, tn11, tn12, tn13, tn14, tn15, tn16, tn17, tn18, tn19, tn20, tn21, tn22, tn23, tn24, tn25, tn26, tn27, tn28, tn29, tn30, tn31, tn32, tn33, tn34, tn35, tn36, tn37, tn38, tn39, tn40, tn41, tn42, tn43, tn44, tn45, tn46, tn47, tn48, tn49, tn50, tn51, tn52, tn53, tn54, tn55, tn56, tn57, tn58, tn59, tn60, lH_eq, true_and, and_true, mdq_0 H1M]
      have go : Calls d 212 [.ref m] h1 (hN h1) (hU h1) (fun r2 h2 => rV r2 (hN h2 = E1 ∧ hU h2 = E2 ∧ Q (some (.int X')) h2)) := by
        refine sv_lays (h0 := h0) (by omega) m H0 S1 (fun h2 S2 f2 m2 => ?_)
        simp only [rV_none]
        have e3 := S2.1.1
        have := k h2 S2 (fun j => (m2 j).trans (m1 j))
        rw [hX'] at this
        exact ⟨e3.2.2.1.trans e1, e3.2.2.2.1.trans e2, this⟩
      exact ⟨fun _ => go, fun _ => ⟨fun _ => go, fun z => absurd z hx⟩⟩
    simp only [fgF] at hX
    cases hw : fwF (paF R A nr nw (fun _ => none) N 5) v nw 0 with
    | none =>
      rw [hw] at hX
      simp only [rI_some, foV]
      refine ⟨fun z => absurd (by trivial) z, fun _ => ?_⟩
      rw [nI_1]
      exact ge_loop hd m nr nw A R v wh hA H0 e1 e2 X k n (i + 1) _ h1 (by omega) ⟨D + 1, by omega, hok1⟩ S1 H1 m1 hX
    | some w =>
      have hwl := fwF_lt hw
      rw [hw] at hX
      simp only at hX
      simp only [rI_some, foV, rt_i, rt_b0, rt_b1, rt_v, rt_l, rt_o, rt_a, rV_none, rI_some, rL_some, rR_some, rT_some, rt_bI, hIf_sL, hIf_sR, hS_sI, hS_sL, hS_sR, hS_cpI, hR_sI, hR_sL, hR_cpI, hL_sI, hL_sR, hL_cpI, hI_sL, hI_sR, hN_sI, hN_sL, hN_sR, hN_cpI, hU_sI, hU_sL, hU_sR, hU_cpI, tn0, tn1, tn2, tn3, tn4, tn5, tn6, tn7, tn8, tn9, tn10, tn11, tn12, tn13, tn14, tn15, tn16, tn17, tn18, tn19, tn20, tn21, tn22, tn23, tn24, tn25, tn26, tn27, tn28, tn29, tn30, tn31, tn32, tn33, tn34, tn35, tn36, tn37, tn38, tn39, tn40, tn41, tn42, tn43, tn44, tn45, tn46, tn47, tn48, tn49, tn50, tn51, tn52, tn53, tn54, tn55, tn56, tn57, tn58, tn59, tn60, lH_eq, true_and, and_true, mdq_0 H1M, mdq_1 H1M, mds_1 H1M, vl7_0, vl7_1, vl7_2, vl7_3, vl7_4, vl7_5, vl7_6, ed, e11]
      refine ⟨fun _ => ⟨fun z => ?_, fun z => ?_⟩, fun z => absurd z (nI_ne_m1 (by omega))⟩
      · rw [if_neg z] at hX
        exact fin (nI w) (fun y => absurd (congrArg Int32.toInt y) (by rw [nI_toInt (by omega), show (-2 : Int32).toInt = -2 by decide]; omega)) hX
      · rw [if_pos z] at hX
        exact fin (N 0 0) (fun y => absurd (congrArg Int32.toInt y) (by rw [show (-2 : Int32).toInt = -2 by decide]; have := hN0.1; omega)) hX
