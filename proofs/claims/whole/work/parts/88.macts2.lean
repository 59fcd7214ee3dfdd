def oLend (nr : Nat) (M : PC) (a b c : Int32) : Int32 × Option PC := if (1 ≤ c ∧ c ≤ 20) ∧ ((0 ≤ a ∧ a < nI nr) ∧ (0 ≤ b ∧ b < nI nr) ∧ a ≠ b ∧ -99 ≤ M 2 a.toNatClampNeg - c ∧ M 2 b.toNatClampNeg + c ≤ 99) then (M 2 a.toNatClampNeg - c, some (setC (setC M 2 a.toNatClampNeg (M 2 a.toNatClampNeg - c)) 2 b.toNatClampNeg (M 2 b.toNatClampNeg + c))) else (-1000, none)
theorem m_lend {d : Nat} {h : AH} {Q : Option Value → AH → Prop} (hd : 9 ≤ d) (m nr nw : Nat) (A M : PC) (fo x : Int32) (ps : List PC) (ns : List (Nat × Nat × Int32)) (cls : List (List (List (Nat × Nat) × List (Nat × Nat)))) (tp : List Int32) (im : Nat → Option TW) (a b c : Int32) (H : RW h m ((nr, nw, A, fo, x, M, ps, ns), cls, tp, im)) (k : ∀ h', Fr' h h' (MZ m) → RW h' m (nxT (nr, nw, A, fo, x, M, ps, ns) (oLend nr M a b c).2, cls, tp, im) → Q (some (.int (oLend nr M a b c).1)) h') : Calls d nX12_lend [.ref m, .int a, .int b, .int c] h (hN h) (hU h) Q := by
  obtain ⟨e, rfl⟩ : ∃ e, d = e + 1 := ⟨d - 1, by omega⟩
  have HM := H.mod
  have HH := H.2.1.hil
  have hr5 := H.2.1.1.1
  have e2 : ∀ q : Int32, 0 ≤ q ∧ q < nI nr → hI h (m + 2) q.toNatClampNeg = M 2 q.toNatClampNeg := fun q z => by
    obtain ⟨r, hr, rfl⟩ := rn_of (by omega) z
    rw [nI_clamp (by omega)]
    exact (HH.2.2.1 r hr).2.1
  refine wX12_lend (by omega) m a b c ?_
  refine m_in32 (by omega) c 1 20 rfl rfl rfl ?_
  simp only [rI_some, bI0, rt_i, rt_b0, rt_b1, rt_v, rt_l, rt_o, rt_a, rV_none, rI_some, rL_some, rR_some, rT_some, rt_bI, hIf_sL, hIf_sR, hS_sI, hS_sL, hS_sR, hS_cpI, hR_sI, hR_sL, hR_cpI, hL_sI, hL_sR, hL_cpI, hI_sL, hI_sR, hN_sI, hN_sL, hN_sR, hN_cpI, hU_sI, hU_sL, hU_sR, hU_cpI, tn0, tn1, tn2, tn3, tn4, tn5, tn6, tn7, tn8, tn9, tn10, tn11, tn12, tn13, tn14, tn15, tn16, tn17, tn18, tn19, tn20, tn21, tn22, tn23, tn24, tn25, tn26, tn27, tn28, tn29, tn30, tn31, tn32, tn33, tn34, tn35, tn36, tn37, tn38, tn39, tn40, tn41, tn42, tn43, tn44, tn45, tn46, tn47, tn48, tn49, tn50, tn51, tn52, tn53, tn54, tn55, tn56, tn57, tn58, tn59, tn60, lH_eq, true_and, and_true, mdq_0 HM]
  refine ⟨fun z => ?_, fun z => ?_⟩
  · have e : oLend nr M a b c = (-1000, none) := by unfold oLend; rw [if_neg (fun y => z y.1)]
    rw [e] at k
    exact k h (Fr'.refl _ _) H
  have z := Decidable.not_not.mp z
  refine m_canLend (by omega) m nr a b c HM hr5 HH.1.1 ?_
  simp only [rI_some, bI0, rt_i, rt_b0, rt_b1, rt_v, rt_l, rt_o, rt_a, rV_none, rI_some, rL_some, rR_some, rT_some, rt_bI, hIf_sL, hIf_sR, hS_sI, hS_sL, hS_sR, hS_cpI, hR_sI, hR_sL, hR_cpI, hL_sI, hL_sR, hL_cpI, hI_sL, hI_sR, hN_sI, hN_sL, hN_sR, hN_cpI, hU_sI, hU_sL, hU_sR, hU_cpI, tn0, tn1, tn2, tn3, tn4, tn5, tn6, tn7, tn8, tn9, tn10, tn11, tn12, tn13, tn14, tn15, tn16, tn17, tn18, tn19, tn20, tn21, tn22, tn23, tn24, tn25, tn26, tn27, tn28, tn29, tn30, tn31, tn32, tn33, tn34, tn35, tn36, tn37, tn38, tn39, tn40, tn41, tn42, tn43, tn44, tn45, tn46, tn47, tn48, tn49, tn50, tn51, tn52, tn53, tn54, tn55, tn56, tn57, tn58, tn59, tn60, lH_eq, true_and, and_true, mdq_0 HM]
  refine ⟨fun y => ?_, fun y => ?_⟩
  · have y := Decidable.not_not.mp y
    obtain ⟨y1, y2, y3, y4, y5⟩ := y
    rw [e2 a y1] at y4
    rw [e2 b y2] at y5
    have e : oLend nr M a b c = (M 2 a.toNatClampNeg - c, some (setC (setC M 2 a.toNatClampNeg (M 2 a.toNatClampNeg - c)) 2 b.toNatClampNeg (M 2 b.toNatClampNeg + c))) := if_pos ⟨z, y1, y2, y3, y4, y5⟩
    rw [e] at k
    obtain ⟨r, hr, rfl⟩ := rn_of (by omega) y1
    obtain ⟨q, hq, rfl⟩ := rn_of (by omega) y2
    have hne : r ≠ q := fun z => y3 (by rw [z])
    rw [nI_clamp (by omega), nI_clamp (by omega)] at k
    refine H.act (by omega) (fun h1 f1 H1 => ?_)
    have HM1 := H1.mod
    have e3 : hI h1 (m + 2) r = M 2 r := (H1.2.1.hil.2.2.1 r hr).2.1
    have e4 : hI h1 (m + 2) q = M 2 q := (H1.2.1.hil.2.2.1 q hq).2.1
    simp only [rV_none, rt_i, rt_b0, rt_b1, rt_v, rt_l, rt_o, rt_a, rV_none, rI_some, rL_some, rR_some, rT_some, rt_bI, hIf_sL, hIf_sR, hS_sI, hS_sL, hS_sR, hS_cpI, hR_sI, hR_sL, hR_cpI, hL_sI, hL_sR, hL_cpI, hI_sL, hI_sR, hN_sI, hN_sL, hN_sR, hN_cpI, hU_sI, hU_sL, hU_sR, hU_cpI, tn0, tn1, tn2, tn3, tn4, tn5, tn6, tn7, tn8, tn9, tn10, tn11, tn12, tn13, tn14, tn15, tn16, tn17, tn18, tn19, tn20, tn21, tn22, tn23, tn24, tn25, tn26, tn27, tn28, tn29, tn30, tn31, tn32, tn33, tn34, tn35, tn36, tn37, tn38, tn39, tn40, tn41, tn42, tn43, tn44, tn45, tn46, tn47, tn48, tn49, tn50, tn51, tn52, tn53, tn54, tn55, tn56, tn57, tn58, tn59, tn60, lH_eq, true_and, and_true, mdq_0 HM1, mdq_2 HM1, mds_2 HM1, vp_in_nI (show r < 5 by omega) (show 5 < 2 ^ 31 by omega), nI_clamp (show r < 2 ^ 31 by omega), vp_in_nI (show q < 5 by omega) (show 5 < 2 ^ 31 by omega), nI_clamp (show q < 2 ^ 31 by omega), hI_sI, if_true, if_neg hne, if_neg (Ne.symm hne), e3, e4]
    have H2 := (H1.cell (r0 := 2) (k := 2) (r := r) (v := M 2 r - c) (Or.inr (Or.inl ⟨rfl, rfl⟩))).cell (r0 := 2) (k := 2) (r := q) (v := M 2 q + c) (Or.inr (Or.inl ⟨rfl, rfl⟩))
    have f2 : Fr' h (sI (sI h1 (m + 2) r (M 2 r - c)) (m + 2) q (M 2 q + c)) (MZ m) := ((f1.mono (fun c z => by unfold MZ; omega)).trans (Fr'.sI (by unfold MZ; omega))).trans (Fr'.sI (by unfold MZ; omega))
    exact ⟨f2.2.2.1, f2.2.2.2.1, k _ f2 H2⟩
  · have e : oLend nr M a b c = (-1000, none) := by
      unfold oLend
      rw [if_neg (fun x => y ?_)]
      obtain ⟨-, x1, x2, x3, x4, x5⟩ := x
      exact ⟨x1, x2, x3, by rw [e2 a x1]; exact x4, by rw [e2 b x2]; exact x5⟩
    rw [e] at k
    exact k h (Fr'.refl _ _) H
def oTrain (nr : Nat) (M : PC) (q v : Int32) : Int32 × Option PC := if (0 ≤ q ∧ q < nI nr) ∧ (1 ≤ v ∧ v ≤ 20) ∧ M 1 q.toNatClampNeg ≠ v then (M 1 q.toNatClampNeg, some (setC M 1 q.toNatClampNeg v)) else (-1, none)
theorem m_train {d : Nat} {h : AH} {Q : Option Value → AH → Prop} (hd : 9 ≤ d) (m nr nw : Nat) (A M : PC) (fo x : Int32) (ps : List PC) (ns : List (Nat × Nat × Int32)) (cls : List (List (List (Nat × Nat) × List (Nat × Nat)))) (tp : List Int32) (im : Nat → Option TW) (q v : Int32) (H : RW h m ((nr, nw, A, fo, x, M, ps, ns), cls, tp, im)) (k : ∀ h', Fr' h h' (MZ m) → RW h' m (nxT (nr, nw, A, fo, x, M, ps, ns) (oTrain nr M q v).2, cls, tp, im) → Q (some (.int (oTrain nr M q v).1)) h') : Calls d nX12_train [.ref m, .int q, .int v] h (hN h) (hU h) Q := by
  obtain ⟨e, rfl⟩ : ∃ e, d = e + 1 := ⟨d - 1, by omega⟩
  have HM := H.mod
  have HH := H.2.1.hil
  have hr5 := H.2.1.1.1
  refine wX12_train (by omega) m q v ?_
  simp only [rt_i, rt_b0, rt_b1, rt_v, rt_l, rt_o, rt_a, rV_none, rI_some, rL_some, rR_some, rT_some, rt_bI, hIf_sL, hIf_sR, hS_sI, hS_sL, hS_sR, hS_cpI, hR_sI, hR_sL, hR_cpI, hL_sI, hL_sR, hL_cpI, hI_sL, hI_sR, hN_sI, hN_sL, hN_sR, hN_cpI, hU_sI, hU_sL, hU_sR, hU_cpI, tn0, tn1, tn2, tn3, tn4, tn5, tn6, tn7, tn8, tn9, tn10, tn11, tn12, tn13, tn14, tn15, tn16, tn17, tn18, tn19, tn20, tn21, tn22, tn23, tn24, tn25, tn26, tn27, tn28, tn29, tn30, tn31, tn32, tn33, tn34, tn35, tn36, tn37, tn38, tn39, tn40, tn41, tn42, tn43, tn44, tn45, tn46, tn47, tn48, tn49, tn50, tn51, tn52, tn53, tn54, tn55, tn56, tn57, tn58, tn59, tn60, lH_eq, true_and, and_true, mdq_0 HM]
  refine m_isRunner (by omega) m nr q HM HH.1.1 hr5 ?_
  simp only [rI_some, bI0]
  refine ⟨fun z => ?_, fun z => ?_⟩
  · have e : oTrain nr M q v = (-1, none) := by unfold oTrain; rw [if_neg (fun y => z y.1)]
    rw [e] at k
    exact ⟨trivial, trivial, k h (Fr'.refl _ _) H⟩
  have z := Decidable.not_not.mp z
  refine m_in32 (by omega) v 1 20 rfl rfl rfl ?_
  simp only [rI_some, bI0]
  refine ⟨fun y => ?_, fun y => ?_⟩
  · have e : oTrain nr M q v = (-1, none) := by unfold oTrain; rw [if_neg (fun x => y x.2.1)]
    rw [e] at k
    exact ⟨trivial, trivial, k h (Fr'.refl _ _) H⟩
  have y := Decidable.not_not.mp y
  obtain ⟨r, hr, rfl⟩ := rn_of (by omega) z
  have e2 : hI h (m + 4) r = M 1 r := (HH.2.2.1 r hr).1
  simp only [rt_i, rt_b0, rt_b1, rt_v, rt_l, rt_o, rt_a, rV_none, rI_some, rL_some, rR_some, rT_some, rt_bI, hIf_sL, hIf_sR, hS_sI, hS_sL, hS_sR, hS_cpI, hR_sI, hR_sL, hR_cpI, hL_sI, hL_sR, hL_cpI, hI_sL, hI_sR, hN_sI, hN_sL, hN_sR, hN_cpI, hU_sI, hU_sL, hU_sR, hU_cpI, tn0, tn1, tn2, tn3, tn4, tn5, tn6, tn7, tn8, tn9, tn10, tn11, tn12, tn13, tn14, tn15, tn16, tn17, tn18, tn19, tn20, tn21, tn22, tn23, tn24, tn25, tn26, tn27, tn28, tn29, tn30, tn31, tn32, tn33, tn34, tn35, tn36, tn37, tn38, tn39, tn40, tn41, tn42, tn43, tn44, tn45, tn46, tn47, tn48, tn49, tn50, tn51, tn52, tn53, tn54, tn55, tn56, tn57, tn58, tn59, tn60, lH_eq, true_and, and_true, mdq_0 HM, mdq_4 HM, mds_4 HM, vp_in_nI (show r < 5 by omega) (show 5 < 2 ^ 31 by omega), nI_clamp (show r < 2 ^ 31 by omega), e2]
  refine ⟨fun w => ?_, fun w => ?_⟩
  · have e : oTrain nr M (nI r) v = (M 1 r, some (setC M 1 r v)) := by unfold oTrain; rw [nI_clamp (by omega), if_pos ⟨z, y, w⟩]
    rw [e] at k
    refine H.act (by omega) (fun h1 f1 H1 => ?_)
    have HM1 := H1.mod
    have e3 : hI h1 (m + 4) r = M 1 r := (H1.2.1.hil.2.2.1 r hr).1
    simp only [rV_none, rt_i, rt_b0, rt_b1, rt_v, rt_l, rt_o, rt_a, rV_none, rI_some, rL_some, rR_some, rT_some, rt_bI, hIf_sL, hIf_sR, hS_sI, hS_sL, hS_sR, hS_cpI, hR_sI, hR_sL, hR_cpI, hL_sI, hL_sR, hL_cpI, hI_sL, hI_sR, hN_sI, hN_sL, hN_sR, hN_cpI, hU_sI, hU_sL, hU_sR, hU_cpI, tn0, tn1, tn2, tn3, tn4, tn5, tn6, tn7, tn8, tn9, tn10, tn11, tn12, tn13, tn14, tn15, tn16, tn17, tn18, tn19, tn20, tn21, tn22, tn23, tn24, tn25, tn26, tn27, tn28, tn29, tn30, tn31, tn32, tn33, tn34, tn35, tn36, tn37, tn38, tn39, tn40, tn41, tn42, tn43, tn44, tn45, tn46, tn47, tn48, tn49, tn50, tn51, tn52, tn53, tn54, tn55, tn56, tn57, tn58, tn59, tn60, lH_eq, true_and, and_true, mdq_0 HM1, mdq_4 HM1, mds_4 HM1, vp_in_nI (show r < 5 by omega) (show 5 < 2 ^ 31 by omega), nI_clamp (show r < 2 ^ 31 by omega), e3]
    have f2 : Fr' h (sI h1 (m + 4) r v) (MZ m) := (f1.mono (fun c z => by unfold MZ; omega)).trans (Fr'.sI (by unfold MZ; omega))
    exact ⟨f2.2.2.1, f2.2.2.2.1, k _ f2 (H1.cell (r0 := 4) (k := 1) (Or.inl ⟨rfl, rfl⟩))⟩
  · have e : oTrain nr M (nI r) v = (-1, none) := by unfold oTrain; rw [nI_clamp (by omega), if_neg (fun x => x.2.2 w)]
    rw [e] at k
    exact k h (Fr'.refl _ _) H
def oShift (nw : Nat) (M : PC) (q v : Int32) : Int32 × Option PC := if (0 ≤ q ∧ q < nI nw) ∧ (1 ≤ v ∧ v ≤ 99) ∧ M 4 q.toNatClampNeg ≠ v then (M 4 q.toNatClampNeg, some (setC M 4 q.toNatClampNeg v)) else (-1, none)
theorem m_shift {d : Nat} {h : AH} {Q : Option Value → AH → Prop} (hd : 9 ≤ d) (m nr nw : Nat) (A M : PC) (fo x : Int32) (ps : List PC) (ns : List (Nat × Nat × Int32)) (cls : List (List (List (Nat × Nat) × List (Nat × Nat)))) (tp : List Int32) (im : Nat → Option TW) (q v : Int32) (H : RW h m ((nr, nw, A, fo, x, M, ps, ns), cls, tp, im)) (k : ∀ h', Fr' h h' (MZ m) → RW h' m (nxT (nr, nw, A, fo, x, M, ps, ns) (oShift nw M q v).2, cls, tp, im) → Q (some (.int (oShift nw M q v).1)) h') : Calls d nX12_shift [.ref m, .int q, .int v] h (hN h) (hU h) Q := by
  obtain ⟨e, rfl⟩ : ∃ e, d = e + 1 := ⟨d - 1, by omega⟩
  have HM := H.mod
  have HH := H.2.1.hil
  have hw6 := H.2.1.1.2.1
  refine wX12_shift (by omega) m q v ?_
  simp only [rt_i, rt_b0, rt_b1, rt_v, rt_l, rt_o, rt_a, rV_none, rI_some, rL_some, rR_some, rT_some, rt_bI, hIf_sL, hIf_sR, hS_sI, hS_sL, hS_sR, hS_cpI, hR_sI, hR_sL, hR_cpI, hL_sI, hL_sR, hL_cpI, hI_sL, hI_sR, hN_sI, hN_sL, hN_sR, hN_cpI, hU_sI, hU_sL, hU_sR, hU_cpI, tn0, tn1, tn2, tn3, tn4, tn5, tn6, tn7, tn8, tn9, tn10, tn11, tn12, tn13, tn14, tn15, tn16, tn17, tn18, tn19, tn20, tn21, tn22, tn23, tn24, tn25, tn26, tn27, tn28, tn29, tn30, tn31, tn32, tn33, tn34, tn35, tn36, tn37, tn38, tn39, tn40, tn41, tn42, tn43, tn44, tn45, tn46, tn47, tn48, tn49, tn50, tn51, tn52, tn53, tn54, tn55, tn56, tn57, tn58, tn59, tn60, lH_eq, true_and, and_true, mdq_0 HM]
  refine m_isWare (by omega) m nw q HM HH.1.2.1 hw6 ?_
  simp only [rI_some, bI0]
  refine ⟨fun z => ?_, fun z => ?_⟩
  · have e : oShift nw M q v = (-1, none) := by unfold oShift; rw [if_neg (fun y => z y.1)]
    rw [e] at k
    exact ⟨trivial, trivial, k h (Fr'.refl _ _) H⟩
  have z := Decidable.not_not.mp z
  refine m_in32 (by omega) v 1 99 rfl rfl rfl ?_
  simp only [rI_some, bI0]
  refine ⟨fun y => ?_, fun y => ?_⟩
  · have e : oShift nw M q v = (-1, none) := by unfold oShift; rw [if_neg (fun x => y x.2.1)]
    rw [e] at k
    exact ⟨trivial, trivial, k h (Fr'.refl _ _) H⟩
  have y := Decidable.not_not.mp y
  obtain ⟨r, hr, rfl⟩ := rn_of (by omega) z
  have e2 : hI h (m + 5) r = M 4 r := (HH.2.2.2 r hr).1
  simp only [rt_i, rt_b0, rt_b1, rt_v, rt_l, rt_o, rt_a, rV_none, rI_some, rL_some, rR_some, rT_some, rt_bI, hIf_sL, hIf_sR, hS_sI, hS_sL, hS_sR, hS_cpI, hR_sI, hR_sL, hR_cpI, hL_sI, hL_sR, hL_cpI, hI_sL, hI_sR, hN_sI, hN_sL, hN_sR, hN_cpI, hU_sI, hU_sL, hU_sR, hU_cpI, tn0, tn1, tn2, tn3, tn4, tn5, tn6, tn7, tn8, tn9, tn10, tn11, tn12, tn13, tn14, tn15, tn16, tn17, tn18, tn19, tn20, tn21, tn22, tn23, tn24, tn25, tn26, tn27, tn28, tn29, tn30, tn31, tn32, tn33, tn34, tn35, tn36, tn37, tn38, tn39, tn40, tn41, tn42, tn43, tn44, tn45, tn46, tn47, tn48, tn49, tn50, tn51, tn52, tn53, tn54, tn55, tn56, tn57, tn58, tn59, tn60, lH_eq, true_and, and_true, mdq_0 HM, mdq_5 HM, mds_5 HM, vp_in_nI (show r < 6 by omega) (show 6 < 2 ^ 31 by omega), nI_clamp (show r < 2 ^ 31 by omega), e2]
  refine ⟨fun w => ?_, fun w => ?_⟩
  · have e : oShift nw M (nI r) v = (M 4 r, some (setC M 4 r v)) := by unfold oShift; rw [nI_clamp (by omega), if_pos ⟨z, y, w⟩]
    rw [e] at k
    refine H.act (by omega) (fun h1 f1 H1 => ?_)
    have HM1 := H1.mod
    have e3 : hI h1 (m + 5) r = M 4 r := (H1.2.1.hil.2.2.2 r hr).1
    simp only [rV_none, rt_i, rt_b0, rt_b1, rt_v, rt_l, rt_o, rt_a, rV_none, rI_some, rL_some, rR_some, rT_some, rt_bI, hIf_sL, hIf_sR, hS_sI, hS_sL, hS_sR, hS_cpI, hR_sI, hR_sL, hR_cpI, hL_sI, hL_sR, hL_cpI, hI_sL, hI_sR, hN_sI, hN_sL, hN_sR, hN_cpI, hU_sI, hU_sL, hU_sR, hU_cpI, tn0, tn1, tn2, tn3, tn4, tn5, tn6, tn7, tn8, tn9, tn10, tn11, tn12, tn13, tn14, tn15, tn16, tn17, tn18, tn19, tn20, tn21, tn22, tn23, tn24, tn25, tn26, tn27, tn28, tn29, tn30, tn31, tn32, tn33, tn34, tn35, tn36, tn37, tn38, tn39, tn40, tn41, tn42, tn43, tn44, tn45, tn46, tn47, tn48, tn49, tn50, tn51, tn52, tn53, tn54, tn55, tn56, tn57, tn58, tn59, tn60, lH_eq, true_and, and_true, mdq_0 HM1, mdq_5 HM1, mds_5 HM1, vp_in_nI (show r < 6 by omega) (show 6 < 2 ^ 31 by omega), nI_clamp (show r < 2 ^ 31 by omega), e3]
    have f2 : Fr' h (sI h1 (m + 5) r v) (MZ m) := (f1.mono (fun c z => by unfold MZ; omega)).trans (Fr'.sI (by unfold MZ; omega))
    exact ⟨f2.2.2.1, f2.2.2.2.1, k _ f2 (H1.cell (r0 := 5) (k := 4) (Or.inr (Or.inr ⟨rfl, rfl⟩)))⟩
  · have e : oShift nw M (nI r) v = (-1, none) := by unfold oShift; rw [nI_clamp (by omega), if_neg (fun x => x.2.2 w)]
    rw [e] at k
    exact k h (Fr'.refl _ _) H
theorem psR_mem {M N : PC} {ps : List PC} (h : N ∈ psR M ps) : N = M ∨ N ∈ ps := by
  unfold psR at h
  rw [List.mem_append] at h
  rcases h with h | h
  · right
    split at h
    · exact List.mem_of_mem_tail h
    · exact h
  · left
    simpa using h
theorem twOk.act {n nr nw : Nat} {A M M' : PC} {fo x : Int32} {ps : List PC} {ns : List (Nat × Nat × Int32)} (H : twOk n (nr, nw, A, fo, x, M, ps, ns)) (hz : hilOk nr nw A) (hM : momOk 999 nr nw M') : twOk n (nr, nw, A, fo, x, M', psR M ps, ns) := by
  obtain ⟨h1, h2, h3, h4⟩ := H
  refine ⟨Or.inr ⟨hz, hM, fun N hN => ?_⟩, h2, h3, h4⟩
  rcases h1 with ⟨a, -⟩ | ⟨a, b, c⟩
  · have := hz.2.2.1.1
    rw [a] at this
    exact absurd this (by decide)
  · rcases psR_mem hN with e | e
    · rw [e]; exact b
    · exact c N e
noncomputable def oDay (nr nw : Nat) (A M : PC) (R : Option (List (List (Nat × Nat) × List (Nat × Nat)))) : Int32 × Option PC := if 0 < A 0 0 ∧ M 0 0 ≠ 999 then (biF (gtF R A nr nw (fun _ => none) M) nw, some (paF R A nr nw (fun _ => none) M)) else (-1, none)
theorem m_day {d : Nat} {h : AH} {Q : Option Value → AH → Prop} (hd : 12 ≤ d) (m nr nw : Nat) (A M : PC) (fo x : Int32) (ps : List PC) (ns : List (Nat × Nat × Int32)) (cls : List (List (List (Nat × Nat) × List (Nat × Nat)))) (tp : List Int32) (im : Nat → Option TW) (H : RW h m ((nr, nw, A, fo, x, M, ps, ns), cls, tp, im)) (ok : wsOk ((nr, nw, A, fo, x, M, ps, ns), cls, tp, im)) (k : ∀ h', Fr' h h' (MZ m) → RW h' m (nxT (nr, nw, A, fo, x, M, ps, ns) (oDay nr nw A M (foR cls fo)).2, cls, tp, im) → Q (some (.int (oDay nr nw A M (foR cls fo)).1)) h') : Calls d nX12_day [.ref m] h (hN h) (hU h) Q := by
  obtain ⟨e, rfl⟩ : ∃ e, d = e + 1 := ⟨d - 1, by omega⟩
  have HM := H.mod
  have HH := H.2.1.hil
  have HQ := H.qk ok
  have e0 : hI h (m + 1) 0 = A 0 0 := HH.1.2.2.1.1
  have e3 : hI h (m + 1) 3 = M 0 0 := HH.2.1
  refine wX12_day (by omega) m ?_
  simp only [rt_i, rt_b0, rt_b1, rt_v, rt_l, rt_o, rt_a, rV_none, rI_some, rL_some, rR_some, rT_some, rt_bI, hIf_sL, hIf_sR, hS_sI, hS_sL, hS_sR, hS_cpI, hR_sI, hR_sL, hR_cpI, hL_sI, hL_sR, hL_cpI, hI_sL, hI_sR, hN_sI, hN_sL, hN_sR, hN_cpI, hU_sI, hU_sL, hU_sR, hU_cpI, tn0, tn1, tn2, tn3, tn4, tn5, tn6, tn7, tn8, tn9, tn10, tn11, tn12, tn13, tn14, tn15, tn16, tn17, tn18, tn19, tn20, tn21, tn22, tn23, tn24, tn25, tn26, tn27, tn28, tn29, tn30, tn31, tn32, tn33, tn34, tn35, tn36, tn37, tn38, tn39, tn40, tn41, tn42, tn43, tn44, tn45, tn46, tn47, tn48, tn49, tn50, tn51, tn52, tn53, tn54, tn55, tn56, tn57, tn58, tn59, tn60, lH_eq, true_and, and_true, mdq_0 HM]
  refine m_isHill (by omega) m HM ?_
  simp only [rI_some, bI0, rt_i, rt_b0, rt_b1, rt_v, rt_l, rt_o, rt_a, rV_none, rI_some, rL_some, rR_some, rT_some, rt_bI, hIf_sL, hIf_sR, hS_sI, hS_sL, hS_sR, hS_cpI, hR_sI, hR_sL, hR_cpI, hL_sI, hL_sR, hL_cpI, hI_sL, hI_sR, hN_sI, hN_sL, hN_sR, hN_cpI, hU_sI, hU_sL, hU_sR, hU_cpI, tn0, tn1, tn2, tn3, tn4, tn5, tn6, tn7, tn8, tn9, tn10, tn11, tn12, tn13, tn14, tn15, tn16, tn17, tn18, tn19, tn20, tn21, tn22, tn23, tn24, tn25, tn26, tn27, tn28, tn29, tn30, tn31, tn32, tn33, tn34, tn35, tn36, tn37, tn38, tn39, tn40, tn41, tn42, tn43, tn44, tn45, tn46, tn47, tn48, tn49, tn50, tn51, tn52, tn53, tn54, tn55, tn56, tn57, tn58, tn59, tn60, lH_eq, true_and, and_true, mdq_0 HM, mdq_1 HM, mds_1 HM, vl7_0, vl7_1, vl7_2, vl7_3, vl7_4, vl7_5, vl7_6, e0, e3]
  refine ⟨fun z => ?_, fun z => ⟨fun y => ?_, fun y => ?_⟩⟩
  · have e : oDay nr nw A M (foR cls fo) = (-1, none) := by unfold oDay; rw [if_neg (fun y => z y.1)]
    rw [e] at k
    exact k h (Fr'.refl _ _) H
  · have z := Decidable.not_not.mp z
    have hok := HQ.of_h z
    have e : oDay nr nw A M (foR cls fo) = (biF (gtF (foR cls fo) A nr nw (fun _ => none) M) nw, some (paF (foR cls fo) A nr nw (fun _ => none) M)) := if_pos ⟨z, y⟩
    rw [e] at k
    refine H.act (by omega) (fun h1 f1 H1 => ?_)
    have ok1 : wsOk ((nr, nw, A, fo, x, M, psR M ps, ns), cls, tp, im) := ⟨ok.1.act hok.1 hok.2, ok.2⟩
    have HQ1 := H1.qk ok1
    simp only [rV_none, mdq_0 H1.mod, true_and]
    refine qc_goes (h := h1) (by omega) m nr nw A M _ _ HQ1.1 hok.1 hok.2 (fun h2 f2 q2 Q2 => ?_)
    have f3 : Fr' h h2 (MZ m) := (f1.mono (fun c z => by unfold MZ; omega)).trans (f2.mono (fun c z => by unfold GS at z; unfold MZ; omega))
    simp only [rI_some, rt_i, rt_b0, rt_b1, rt_v, rt_l, rt_o, rt_a, rV_none, rI_some, rL_some, rR_some, rT_some, rt_bI, hIf_sL, hIf_sR, hS_sI, hS_sL, hS_sR, hS_cpI, hR_sI, hR_sL, hR_cpI, hL_sI, hL_sR, hL_cpI, hI_sL, hI_sR, hN_sI, hN_sL, hN_sR, hN_cpI, hU_sI, hU_sL, hU_sR, hU_cpI, tn0, tn1, tn2, tn3, tn4, tn5, tn6, tn7, tn8, tn9, tn10, tn11, tn12, tn13, tn14, tn15, tn16, tn17, tn18, tn19, tn20, tn21, tn22, tn23, tn24, tn25, tn26, tn27, tn28, tn29, tn30, tn31, tn32, tn33, tn34, tn35, tn36, tn37, tn38, tn39, tn40, tn41, tn42, tn43, tn44, tn45, tn46, tn47, tn48, tn49, tn50, tn51, tn52, tn53, tn54, tn55, tn56, tn57, tn58, tn59, tn60, lH_eq, true_and, and_true]
    refine ⟨f3.2.2.1, f3.2.2.2.1, k _ f3 (H1.up f2 (fun c z => by unfold GS at z; omega) (fun j _ => f2.2.2.2.2.1 m (by unfold GS; omega) j) (H1.2.1.same f2 (fun c z => by unfold GS at z; omega) q2 Q2.2.2.1))⟩
  · have e : oDay nr nw A M (foR cls fo) = (-1, none) := by unfold oDay; rw [if_neg (fun x => x.2 y)]
    rw [e] at k
    exact k h (Fr'.refl _ _) H
