/-! the reference's images, and its tape -/
theorem rows_3 : ∀ r ∈ rowsL, (1 ≤ r ∧ r ≤ 14) ∨ r = 33 ∨ r = 34 := by decide
def oImage (T : TW) (im : Nat → Option TW) (s : Int32) : Int32 × (Nat → Option TW) := if 0 ≤ s ∧ s ≤ 3 then (T.2.2.2.2.2.1 0 0, fun i => if i = s.toNatClampNeg then some T else im i) else (-1, im)
theorem m_image {d : Nat} {h : AH} {Q : Option Value → AH → Prop} (hd : 7 ≤ d) (m : Nat) (T : TW) (cls : List (List (List (Nat × Nat) × List (Nat × Nat)))) (tp : List Int32) (im : Nat → Option TW) (s : Int32) (H : RW h m (T, cls, tp, im)) (k : ∀ h', Fr' h h' (MZ m) → RW h' m (T, cls, tp, (oImage T im s).2) → Q (some (.int (oImage T im s).1)) h') : Calls d nX12_image [.ref m, .int s] h (hN h) (hU h) Q := by
  obtain ⟨e, rfl⟩ : ∃ e, d = e + 1 := ⟨d - 1, by omega⟩
  have HM := H.mod
  refine wX12_image (by omega) m s ?_
  refine m_in32 (by omega) s 0 3 rfl rfl rfl ?_
  simp only [rI_some, bI0, rt_i, rt_b0, rt_b1, rt_v, rt_l, rt_o, rt_a, rV_none, rI_some, rL_some, rR_some, rT_some, rt_bI, hIf_sL, hIf_sR, hS_sI, hS_sL, hS_sR, hS_cpI, hR_sI, hR_sL, hR_cpI, hL_sI, hL_sR, hL_cpI, hI_sL, hI_sR, hN_sI, hN_sL, hN_sR, hN_cpI, hU_sI, hU_sL, hU_sR, hU_cpI, tn0, tn1, tn2, tn3, tn4, tn5, tn6, tn7, tn8, tn9, tn10, tn11, tn12, tn13, tn14, tn15, tn16, tn17, tn18, tn19, tn20, tn21, tn22, tn23, tn24, tn25, tn26, tn27, tn28, tn29, tn30, tn31, tn32, tn33, tn34, tn35, tn36, tn37, tn38, tn39, tn40, tn41, tn42, tn43, tn44, tn45, tn46, tn47, tn48, tn49, tn50, tn51, tn52, tn53, tn54, tn55, tn56, tn57, tn58, tn59, tn60, lH_eq, true_and, and_true, mdq_0 HM, mdq_56 HM, mds_56 HM]
  refine ⟨fun z => ?_, fun z => ?_⟩
  · have z := Decidable.not_not.mp z
    obtain ⟨i, hi, rfl⟩ := rg_of (n := 3) rfl (by decide) z
    have e : oImage T im (nI i) = (T.2.2.2.2.2.1 0 0, fun j => if j = i then some T else im j) := by unfold oImage; rw [nI_clamp (by omega), if_pos z]
    rw [e] at k
    have en : vp_nar .boolean 1 = 1 := by decide
    simp only [en, nI_clamp (show i < 2 ^ 31 by omega)]
    refine ⟨by decide, vp_in_nI (by omega) (by decide), fun y => absurd y (by decide), fun _ => ?_⟩
    have f1 : Fr' h (sI h (m + 43) i 1) (fun c => c = m + 43) := Fr'.sI rfl
    refine m_carryS (h := sI h (m + 43) i 1) (by omega) m i (by omega) (HM.fr f1) (fun h2 c => ?_)
    obtain ⟨g1, g2, g3, g4, g5, g6⟩ := c
    have HM2 := (HM.fr f1).fr g1
    have f2 : Fr' h h2 (MZ m) := (f1.mono (fun c z => by unfold MZ; omega)).trans (g1.mono (fun c z => by unfold MZ; omega))
    have gm : ∀ j, j ≠ 57 → j ≠ 58 → hI h2 m j = hI h m j := fun j a b => by rw [g4 j a b, hI_sI, if_neg (by omega)]
    have gr : ∀ c, c ≠ m → c ≠ m + 34 → c ≠ m + 42 → c ≠ m + 43 → ∀ j, hI h2 c j = hI h c j := fun c a b e f j => by rw [g1.2.2.2.2.1 c (by omega), hI_sI, if_neg (by omega)]
    obtain ⟨w1, w2, w3, ⟨w4, w5, w6⟩, ⟨w7, w8, w9⟩, w10, w11⟩ := H
    have W2 : MNo h2 m T := w2.cg (fun r hr j hj => by
      unfold refP
      split
      · exact gm 45 (by decide) (by decide)
      · have := rows_3 r hr
        exact gr (m + r) (by omega) (by omega) (by omega) (by omega) j)
    have e13 : hI h2 (m + 1) 3 = T.2.2.2.2.2.1 0 0 := by
      obtain ⟨nr, nw, A, fo, x, M, ps, ns⟩ := T
      exact W2.hil.2.1
    simp only [rV_none, rt_i, rt_b0, rt_b1, rt_v, rt_l, rt_o, rt_a, rV_none, rI_some, rL_some, rR_some, rT_some, rt_bI, hIf_sL, hIf_sR, hS_sI, hS_sL, hS_sR, hS_cpI, hR_sI, hR_sL, hR_cpI, hL_sI, hL_sR, hL_cpI, hI_sL, hI_sR, hN_sI, hN_sL, hN_sR, hN_cpI, hU_sI, hU_sL, hU_sR, hU_cpI, tn0, tn1, tn2, tn3, tn4, tn5, tn6, tn7, tn8, tn9, tn10, tn11, tn12, tn13, tn14, tn15, tn16, tn17, tn18, tn19, tn20, tn21, tn22, tn23, tn24, tn25, tn26, tn27, tn28, tn29, tn30, tn31, tn32, tn33, tn34, tn35, tn36, tn37, tn38, tn39, tn40, tn41, tn42, tn43, tn44, tn45, tn46, tn47, tn48, tn49, tn50, tn51, tn52, tn53, tn54, tn55, tn56, tn57, tn58, tn59, tn60, lH_eq, true_and, and_true, mdq_0 HM2, mdq_1 HM2, mds_1 HM2, vl7_0, vl7_1, vl7_2, vl7_3, vl7_4, vl7_5, vl7_6, e13]
    refine ⟨f2.2.2.1, f2.2.2.2.1, k h2 f2 ⟨HM2, W2, fun j hj => (gr (m + 32) (by omega) (by omega) (by omega) (by omega) j).trans (w3 j hj), ⟨(gm 25 (by decide) (by decide)).trans w4, w5, fun i c hc => (w6 i c hc).cg (fun b h1 h2 => gr b (by omega) (by omega) (by omega) (by omega))⟩, ⟨(gm 21 (by decide) (by decide)).trans w7, w8, fun i b hb => (gr (m + 21) (by omega) (by omega) (by omega) (by omega) i).trans (w9 i b hb)⟩, fun s hs => ?_, (gm 30 (by decide) (by decide)).trans w11⟩⟩
    have e43 : ∀ j, hI h2 (m + 43) j = if j = i then 1 else hI h (m + 43) j := fun j => by rw [g1.2.2.2.2.1 (m + 43) (by omega), hI_sI, if_pos rfl]
    show imIs h2 m s (if s = i then some T else im s)
    by_cases c : s = i
    · subst c
      rw [if_pos rfl]
      refine ⟨by rw [e43, if_pos rfl], w2.cg (fun r hr j hj => ?_)⟩
      have := rows_653 r hr
      show hI h2 (m + 42) (700 * s + ofR r + j) = refP h m r j
      rw [g5 r hr j hj this]
      unfold refP
      split
      · rw [hI_sI, if_neg (by omega)]
      · have := rows_3 r hr
        rw [hI_sI, if_neg (by omega)]
    · rw [if_neg c]
      refine (w10 s hs).cg hs (by rw [e43, if_neg c]) (fun j h1 h2 => ?_)
      rw [g6 j (by omega), hI_sI, if_neg (by omega)]
  · have e : oImage T im s = (-1, im) := by unfold oImage; rw [if_neg z]
    rw [e] at k
    exact k h (Fr'.refl _ _) H
def oBack (T : TW) (im : Nat → Option TW) (s : Int32) : Int32 × TW := if 0 ≤ s ∧ s ≤ 3 then (match im s.toNatClampNeg with
  | none => (-1, T)
  | some T' => (T'.2.2.2.2.2.1 0 0, T')) else (-1, T)
theorem m_back {d : Nat} {h : AH} {Q : Option Value → AH → Prop} (hd : 7 ≤ d) (m : Nat) (T : TW) (cls : List (List (List (Nat × Nat) × List (Nat × Nat)))) (tp : List Int32) (im : Nat → Option TW) (s : Int32) (H : RW h m (T, cls, tp, im)) (k : ∀ h', Fr' h h' (MZ m) → RW h' m ((oBack T im s).2, cls, tp, im) → Q (some (.int (oBack T im s).1)) h') : Calls d nX12_back [.ref m, .int s] h (hN h) (hU h) Q := by
  obtain ⟨e, rfl⟩ : ∃ e, d = e + 1 := ⟨d - 1, by omega⟩
  have HM := H.mod
  refine wX12_back (by omega) m s ?_
  refine m_in32 (by omega) s 0 3 rfl rfl rfl ?_
  simp only [rI_some, bI0, rt_i, rt_b0, rt_b1, rt_v, rt_l, rt_o, rt_a, rV_none, rI_some, rL_some, rR_some, rT_some, rt_bI, hIf_sL, hIf_sR, hS_sI, hS_sL, hS_sR, hS_cpI, hR_sI, hR_sL, hR_cpI, hL_sI, hL_sR, hL_cpI, hI_sL, hI_sR, hN_sI, hN_sL, hN_sR, hN_cpI, hU_sI, hU_sL, hU_sR, hU_cpI, tn0, tn1, tn2, tn3, tn4, tn5, tn6, tn7, tn8, tn9, tn10, tn11, tn12, tn13, tn14, tn15, tn16, tn17, tn18, tn19, tn20, tn21, tn22, tn23, tn24, tn25, tn26, tn27, tn28, tn29, tn30, tn31, tn32, tn33, tn34, tn35, tn36, tn37, tn38, tn39, tn40, tn41, tn42, tn43, tn44, tn45, tn46, tn47, tn48, tn49, tn50, tn51, tn52, tn53, tn54, tn55, tn56, tn57, tn58, tn59, tn60, lH_eq, true_and, and_true, mdq_0 HM, mdq_56 HM, mds_56 HM]
  refine ⟨fun z => ?_, fun z => ?_⟩
  · have e : oBack T im s = (-1, T) := by unfold oBack; rw [if_neg z]
    rw [e] at k
    exact k h (Fr'.refl _ _) H
  · have z := Decidable.not_not.mp z
    obtain ⟨i, hi, rfl⟩ := rg_of (n := 3) rfl (by decide) z
    have w10 := H.2.2.2.2.2.1 i (by omega)
    have e : oBack T im (nI i) = (match im i with
      | none => (-1, T)
      | some T' => (T'.2.2.2.2.2.1 0 0, T')) := by unfold oBack; rw [nI_clamp (by omega), if_pos z]
    rw [e] at k
    simp only [nI_clamp (show i < 2 ^ 31 by omega)]
    refine ⟨by decide, vp_in_nI (by omega) (by decide), ?_⟩
    cases hm : im i with
    | none =>
      rw [hm] at k w10
      have w10 : hI h (m + 43) i = 0 := w10
      rw [w10]
      exact ⟨fun y => absurd rfl y, fun _ => k h (Fr'.refl _ _) H⟩
    | some T' =>
      rw [hm] at k w10
      obtain ⟨x1, x2⟩ := w10
      rw [x1]
      refine ⟨fun _ => ?_, fun y => absurd y (by decide)⟩
      refine m_carryL (by omega) m i (by omega) HM (fun h2 c e45 => ?_)
      obtain ⟨g1, g2, g3, g4, g5, g6⟩ := c
      have HM2 := HM.fr g1
      have fr : ∀ c, (c = m ∨ ∃ r ∈ rowsL, c = m + r) → c = m ∨ (m + 1 ≤ c ∧ c ≤ m + 14) ∨ c = m + 33 ∨ c = m + 34 := fun c z => by
        rcases z with z | ⟨r, hr, z⟩
        · exact Or.inl z
        · have := rows_3 r hr
          omega
      have f2 : Fr' h h2 (MZ m) := g1.mono (fun c z => by have := fr c z; unfold MZ; omega)
      have W2 : MNo h2 m T' := x2.cg (fun r hr j hj => by
        have l := rows_653 r hr
        unfold refP
        split
        · rename_i e34
          subst e34
          have : j = 0 := by simp only [lnR] at hj; omega
          subst this
          exact e45
        · exact g5 r hr j hj l)
      have e13 : hI h2 (m + 1) 3 = T'.2.2.2.2.2.1 0 0 := by
        obtain ⟨nr, nw, A, fo, x, M, ps, ns⟩ := T'
        exact W2.hil.2.1
      simp only [rV_none, rt_i, rt_b0, rt_b1, rt_v, rt_l, rt_o, rt_a, rV_none, rI_some, rL_some, rR_some, rT_some, rt_bI, hIf_sL, hIf_sR, hS_sI, hS_sL, hS_sR, hS_cpI, hR_sI, hR_sL, hR_cpI, hL_sI, hL_sR, hL_cpI, hI_sL, hI_sR, hN_sI, hN_sL, hN_sR, hN_cpI, hU_sI, hU_sL, hU_sR, hU_cpI, tn0, tn1, tn2, tn3, tn4, tn5, tn6, tn7, tn8, tn9, tn10, tn11, tn12, tn13, tn14, tn15, tn16, tn17, tn18, tn19, tn20, tn21, tn22, tn23, tn24, tn25, tn26, tn27, tn28, tn29, tn30, tn31, tn32, tn33, tn34, tn35, tn36, tn37, tn38, tn39, tn40, tn41, tn42, tn43, tn44, tn45, tn46, tn47, tn48, tn49, tn50, tn51, tn52, tn53, tn54, tn55, tn56, tn57, tn58, tn59, tn60, lH_eq, true_and, and_true, mdq_0 HM2, mdq_1 HM2, mds_1 HM2, vl7_0, vl7_1, vl7_2, vl7_3, vl7_4, vl7_5, vl7_6, e13]
      exact ⟨f2.2.2.1, f2.2.2.2.1, k h2 f2 (H.up g1 (fun c z => by have := fr c z; omega) (fun j hj => g4 j (by omega) (by omega) (by omega)) W2)⟩
