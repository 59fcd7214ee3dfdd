/-! the reference's small answers -/
theorem RW.up {h h' : AH} {m : Nat} {T T' : TW} {cls : List (List (List (Nat × Nat) × List (Nat × Nat)))} {tp : List Int32} {im : Nat → Option TW} {S : Nat → Prop} (H : RW h m (T, cls, tp, im)) (f : Fr' h h' S) (hs : ∀ c, S c → c = m ∨ (m + 1 ≤ c ∧ c ≤ m + 14) ∨ (m + 29 ≤ c ∧ c ≤ m + 31) ∨ c = m + 33 ∨ c = m + 34) (e0 : ∀ j, j = 21 ∨ j = 25 ∨ j = 30 → hI h' m j = hI h m j) (HT : MNo h' m T') : RW h' m (T', cls, tp, im) := by
  obtain ⟨w1, w2, w3, ⟨w4, w5, w6⟩, ⟨w7, w8, w9⟩, w10, w11⟩ := H
  have g : ∀ c, ¬ (c = m ∨ (m + 1 ≤ c ∧ c ≤ m + 14) ∨ (m + 29 ≤ c ∧ c ≤ m + 31) ∨ c = m + 33 ∨ c = m + 34) → ∀ j, hI h' c j = hI h c j := fun c hc j => f.2.2.2.2.1 c (fun z => hc (hs c z)) j
  exact ⟨w1.fr f, HT, fun j hj => (g (m + 32) (by omega) j).trans (w3 j hj), ⟨(e0 25 (by omega)).trans w4, w5, fun i c hc => (w6 i c hc).cg (fun b h1 h2 => g b (by omega))⟩, ⟨(e0 21 (by omega)).trans w7, w8, fun i b hb => (g (m + 21) (by omega) i).trans (w9 i b hb)⟩, fun s hs => (w10 s hs).cg hs (g (m + 43) (by omega) s) (fun j _ hj => g (m + 42) (by omega) j), (e0 30 (by omega)).trans w11⟩
/-- one cell of a table is set -/
def setC (M : PC) (k r : Nat) (v : Int32) : PC := fun a b => if a = k ∧ b = r then v else M a b
theorem MNo.force {h : AH} {m nr nw : Nat} {A M : PC} {fo x v : Int32} {ps : List PC} {ns : List (Nat × Nat × Int32)} (H : MNo h m (nr, nw, A, fo, x, M, ps, ns)) : MNo (sI h (m + 1) 6 v) m (nr, nw, A, v, x, M, ps, ns) := by
  obtain ⟨b, ⟨s0, s1, s2, s3, s4, s5, s6⟩, h1, h2, h3, h4, h5, h6, h7⟩ := H
  have g : ∀ r, r ≠ 1 → refP (sI h (m + 1) 6 v) m r = refP h m r := fun r hr => by
    funext j
    unfold refP
    split
    · rw [hI_sI, if_neg (by omega)]
    · rw [hI_sI, if_neg (by omega)]
  have g1 : ∀ j, refP (sI h (m + 1) 6 v) m 1 j = if j = 6 then v else refP h m 1 j := fun j => by
    simp only [refP, show ¬ (1 : Nat) = 34 by decide, if_false, hI_sI, if_true]
  unfold MNo MTw
  simp only [g1, g 2 (by decide), g 3 (by decide), g 4 (by decide), g 5 (by decide), g 6 (by decide), g 7 (by decide), g 8 (by decide), g 9 (by decide), g 10 (by decide), g 11 (by decide), g 12 (by decide), g 13 (by decide), g 14 (by decide), g 33 (by decide), g 34 (by decide)]
  exact ⟨b, ⟨s0, s1, s2, s3, s4, s5, rfl⟩, h1, h2, h3, h4, h5, h6, h7⟩
theorem MNo.seed {h : AH} {m nr nw : Nat} {A M : PC} {fo x v : Int32} {ps : List PC} {ns : List (Nat × Nat × Int32)} (H : MNo h m (nr, nw, A, fo, x, M, ps, ns)) : MNo (sI h (m + 1) 5 v) m (nr, nw, A, fo, v, M, ps, ns) := by
  obtain ⟨b, ⟨s0, s1, s2, s3, s4, s5, s6⟩, h1, h2, h3, h4, h5, h6, h7⟩ := H
  have g : ∀ r, r ≠ 1 → refP (sI h (m + 1) 5 v) m r = refP h m r := fun r hr => by
    funext j
    unfold refP
    split
    · rw [hI_sI, if_neg (by omega)]
    · rw [hI_sI, if_neg (by omega)]
  have g1 : ∀ j, refP (sI h (m + 1) 5 v) m 1 j = if j = 5 then v else refP h m 1 j := fun j => by
    simp only [refP, show ¬ (1 : Nat) = 34 by decide, if_false, hI_sI, if_true]
  unfold MNo MTw
  simp only [g1, g 2 (by decide), g 3 (by decide), g 4 (by decide), g 5 (by decide), g 6 (by decide), g 7 (by decide), g 8 (by decide), g 9 (by decide), g 10 (by decide), g 11 (by decide), g 12 (by decide), g 13 (by decide), g 14 (by decide), g 33 (by decide), g 34 (by decide)]
  exact ⟨b, ⟨s0, s1, s2, s3, s4, rfl, s6⟩, h1, h2, h3, h4, h5, h6, h7⟩
theorem or_z (x : Int32) : x ||| 0 = x := by
  apply Int32.toBitVec_inj.mp
  simp
theorem mat_loop {d E1 E2 : Nat} {Q : Option Value → AH → Prop} {h : AH} (hd : 6 ≤ d) (m nr nw : Nat) (A N : PC) (H : ModAt h m) (HH : MHil h m nr nw A) (hw6 : nw ≤ 6) (hA : 0 < nw → hilOk nr nw A) (h13 : hI h (m + 1) 3 = N 0 0) (e1 : hN h = E1) (e2 : hU h = E2) (k : Q (some (.int (thBits (thB (A 5) (N 0 0)) nw))) h) : ∀ n i : Nat, i + n = nw → Reach d nX12_allThere (4, [.ref m, .int (thBits (thB (A 5) (N 0 0)) i), .int (nI i)], []) h E1 E2 Q
  | 0, i, hi => by
    have : i = nw := by omega
    subst this
    refine wX12_allThere_4 (by omega) m _ (nI i) ?_
    simp only [rt_i, rt_b0, rt_b1, rt_v, rt_l, rt_o, rt_a, rV_none, rI_some, rL_some, rR_some, rT_some, rt_bI, hIf_sL, hIf_sR, hS_sI, hS_sL, hS_sR, hS_cpI, hR_sI, hR_sL, hR_cpI, hL_sI, hL_sR, hL_cpI, hI_sL, hI_sR, hN_sI, hN_sL, hN_sR, hN_cpI, hU_sI, hU_sL, hU_sR, hU_cpI, tn0, tn1, tn2, tn3, tn4, tn5, tn6, tn7, tn8, tn9, tn10, tn11, tn12, tn13, tn14, tn15, tn16, tn17, tn18, tn19, tn20, tn21, tn22, tn23, tn24, tn25, tn26, tn27, tn28, tn29, tn30, tn31, tn32, tn33, tn34, tn35, tn36, tn37, tn38, tn39, tn40, tn41, tn42, tn43, tn44, tn45, tn46, tn47, tn48, tn49, tn50, tn51, tn52, tn53, tn54, tn55, tn56, tn57, tn58, tn59, tn60, lH_eq, true_and, and_true, mdq_0 H, mdq_1 H, mds_1 H, vl7_0, vl7_1, vl7_2, vl7_3, vl7_4, vl7_5, vl7_6, HH.2.1, nI_le_iff (show i < 2 ^ 31 by omega) (show i < 2 ^ 31 by omega)]
    exact ⟨fun _ => ⟨e1, e2, k⟩, fun z => absurd (Nat.le_refl i) z⟩
  | n + 1, i, hi => by
    have ih := mat_loop hd m nr nw A N H HH hw6 hA h13 e1 e2 k n (i + 1) (by omega)
    have e8 : hI h (m + 8) i = A 5 i := (HH.2.2.1.2 i (by omega)).2
    refine wX12_allThere_4 (by omega) m _ (nI i) ?_
    simp only [rt_i, rt_b0, rt_b1, rt_v, rt_l, rt_o, rt_a, rV_none, rI_some, rL_some, rR_some, rT_some, rt_bI, hIf_sL, hIf_sR, hS_sI, hS_sL, hS_sR, hS_cpI, hR_sI, hR_sL, hR_cpI, hL_sI, hL_sR, hL_cpI, hI_sL, hI_sR, hN_sI, hN_sL, hN_sR, hN_cpI, hU_sI, hU_sL, hU_sR, hU_cpI, tn0, tn1, tn2, tn3, tn4, tn5, tn6, tn7, tn8, tn9, tn10, tn11, tn12, tn13, tn14, tn15, tn16, tn17, tn18, tn19, tn20, tn21, tn22, tn23, tn24, tn25, tn26, tn27, tn28, tn29, tn30, tn31, tn32, tn33, tn34, tn35, tn36, tn37, tn38, tn39, tn40, tn41, tn42, tn43, tn44, tn45, tn46, tn47, tn48, tn49, tn50, tn51, tn52, tn53, tn54, tn55, tn56, tn57, tn58, tn59, tn60, lH_eq, true_and, and_true, mdq_0 H, mdq_1 H, mds_1 H, vl7_0, vl7_1, vl7_2, vl7_3, vl7_4, vl7_5, vl7_6, HH.2.1, nI_le_iff (show nw < 2 ^ 31 by omega) (show i < 2 ^ 31 by omega), nI_1, or_z]
    refine ⟨fun z => absurd z (by omega), fun _ => ?_⟩
    refine m_isThere (by omega) m i H (by omega) (by rw [e8]; exact pos_of ((hA (by omega)).2.2.2.2 i (by omega)).2.2.1) ?_
    simp only [rI_some, bI0, e8, h13, ← thB_t]
    simp only [thBits] at ih
    refine ⟨fun z => ?_, fun z => ?_⟩
    · rwa [if_neg z] at ih
    · rwa [if_pos (Decidable.not_not.mp z)] at ih
def oCount (nr nw : Nat) (A M : PC) (fo x : Int32) (p n c t : Nat) (w : Int32) : Int32 := if w = 0 then A 0 0 else if w = 1 then nI nr else if w = 2 then nI nw else if w = 3 then nI c else if w = 4 then fo else if w = 5 then M 0 0 else if w = 6 then suF (M 3) nr else if w = 7 then thBits (thB (A 5) (M 0 0)) nw else if w = 8 then nI n else if w = 9 then nI p else if w = 10 then x else if w = 11 then nI t else -1
theorem m_count {d : Nat} {h : AH} {Q : Option Value → AH → Prop} (hd : 8 ≤ d) (m nr nw : Nat) (A M : PC) (fo x : Int32) (ps : List PC) (ns : List (Nat × Nat × Int32)) (cls : List (List (List (Nat × Nat) × List (Nat × Nat)))) (tp : List Int32) (im : Nat → Option TW) (w : Int32) (H : RW h m ((nr, nw, A, fo, x, M, ps, ns), cls, tp, im)) (ok : wsOk ((nr, nw, A, fo, x, M, ps, ns), cls, tp, im)) (k : Q (some (.int (oCount nr nw A M fo x ps.length ns.length cls.length tp.length w))) h) : Calls d nX12_count [.ref m, .int w] h (hN h) (hU h) Q := by
  obtain ⟨e, rfl⟩ : ∃ e, d = e + 1 := ⟨d - 1, by omega⟩
  have HQ := H.qk ok
  obtain ⟨w1, ⟨b, ⟨s0, s1, s2, s3, s4, s5, s6⟩, h1, h2, h3, h4, h5, h6, h7⟩, w3, ⟨w4, -⟩, ⟨w7, -⟩, -⟩ := H
  have s0 : hI h (m + 1) 0 = A 0 0 := s0
  have s1 : hI h (m + 1) 1 = nI nr := s1
  have s2 : hI h (m + 1) 2 = nI nw := s2
  have s3 : hI h (m + 1) 3 = M 0 0 := s3
  have s4 : hI h (m + 1) 4 = nI ns.length := s4
  have s5 : hI h (m + 1) 5 = x := s5
  have s6 : hI h (m + 1) 6 = fo := s6
  have h5 : hI h m 45 = nI ps.length := h5
  have hA : 0 < nw → hilOk nr nw A := fun z => by
    rcases HQ.2.2.2.2 with y | y
    · omega
    · exact y.1
  refine wX12_count (by omega) m w ?_
  simp only [rt_i, rt_b0, rt_b1, rt_v, rt_l, rt_o, rt_a, rV_none, rI_some, rL_some, rR_some, rT_some, rt_bI, hIf_sL, hIf_sR, hS_sI, hS_sL, hS_sR, hS_cpI, hR_sI, hR_sL, hR_cpI, hL_sI, hL_sR, hL_cpI, hI_sL, hI_sR, hN_sI, hN_sL, hN_sR, hN_cpI, hU_sI, hU_sL, hU_sR, hU_cpI, tn0, tn1, tn2, tn3, tn4, tn5, tn6, tn7, tn8, tn9, tn10, tn11, tn12, tn13, tn14, tn15, tn16, tn17, tn18, tn19, tn20, tn21, tn22, tn23, tn24, tn25, tn26, tn27, tn28, tn29, tn30, tn31, tn32, tn33, tn34, tn35, tn36, tn37, tn38, tn39, tn40, tn41, tn42, tn43, tn44, tn45, tn46, tn47, tn48, tn49, tn50, tn51, tn52, tn53, tn54, tn55, tn56, tn57, tn58, tn59, tn60, lH_eq, true_and, and_true, mdq_0 w1, mdq_1 w1, mds_1 w1, vl7_0, vl7_1, vl7_2, vl7_3, vl7_4, vl7_5, vl7_6, s0, s1, s2, s3, s4, s5, s6, w4, w7, h5]
  unfold oCount at k
  refine ⟨fun z => ?_, fun z => ?_⟩
  · rwa [if_pos z] at k
  rw [if_neg z] at k
  refine ⟨fun z => ?_, fun z => ?_⟩
  · rwa [if_pos z] at k
  rw [if_neg z] at k
  refine ⟨fun z => ?_, fun z => ?_⟩
  · rwa [if_pos z] at k
  rw [if_neg z] at k
  refine ⟨fun z => ?_, fun z => ?_⟩
  · rwa [if_pos z] at k
  rw [if_neg z] at k
  refine ⟨fun z => ?_, fun z => ?_⟩
  · rwa [if_pos z] at k
  rw [if_neg z] at k
  refine ⟨fun z => ?_, fun z => ?_⟩
  · rwa [if_pos z] at k
  rw [if_neg z] at k
  refine ⟨fun z => ?_, fun z => ?_⟩
  · rw [if_pos z] at k
    refine m_allWealth (by omega) m nr w1 s1 b.1 ?_
    rw [suF_cg (f := hI h (m + 3)) (g := M 3) (fun j hj => (h1 j hj).2.2)]
    simp only [rI_some, rt_i, rt_b0, rt_b1, rt_v, rt_l, rt_o, rt_a, rV_none, rI_some, rL_some, rR_some, rT_some, rt_bI, hIf_sL, hIf_sR, hS_sI, hS_sL, hS_sR, hS_cpI, hR_sI, hR_sL, hR_cpI, hL_sI, hL_sR, hL_cpI, hI_sL, hI_sR, hN_sI, hN_sL, hN_sR, hN_cpI, hU_sI, hU_sL, hU_sR, hU_cpI, tn0, tn1, tn2, tn3, tn4, tn5, tn6, tn7, tn8, tn9, tn10, tn11, tn12, tn13, tn14, tn15, tn16, tn17, tn18, tn19, tn20, tn21, tn22, tn23, tn24, tn25, tn26, tn27, tn28, tn29, tn30, tn31, tn32, tn33, tn34, tn35, tn36, tn37, tn38, tn39, tn40, tn41, tn42, tn43, tn44, tn45, tn46, tn47, tn48, tn49, tn50, tn51, tn52, tn53, tn54, tn55, tn56, tn57, tn58, tn59, tn60, lH_eq, true_and, and_true]
    exact k
  rw [if_neg z] at k
  refine ⟨fun z => ?_, fun z => ?_⟩
  · rw [if_pos z] at k
    obtain ⟨e, rfl⟩ : ∃ e1, e = e1 + 1 := ⟨e - 1, by omega⟩
    refine wX12_allThere (by omega) m ?_
    refine mat_loop (by omega) m nr nw A M w1 HQ.1.2.1 b.2.1 hA s3 rfl rfl ?_ nw 0 (by omega)
    simp only [rI_some, rt_i, rt_b0, rt_b1, rt_v, rt_l, rt_o, rt_a, rV_none, rI_some, rL_some, rR_some, rT_some, rt_bI, hIf_sL, hIf_sR, hS_sI, hS_sL, hS_sR, hS_cpI, hR_sI, hR_sL, hR_cpI, hL_sI, hL_sR, hL_cpI, hI_sL, hI_sR, hN_sI, hN_sL, hN_sR, hN_cpI, hU_sI, hU_sL, hU_sR, hU_cpI, tn0, tn1, tn2, tn3, tn4, tn5, tn6, tn7, tn8, tn9, tn10, tn11, tn12, tn13, tn14, tn15, tn16, tn17, tn18, tn19, tn20, tn21, tn22, tn23, tn24, tn25, tn26, tn27, tn28, tn29, tn30, tn31, tn32, tn33, tn34, tn35, tn36, tn37, tn38, tn39, tn40, tn41, tn42, tn43, tn44, tn45, tn46, tn47, tn48, tn49, tn50, tn51, tn52, tn53, tn54, tn55, tn56, tn57, tn58, tn59, tn60, lH_eq, true_and, and_true]
    exact k
  rw [if_neg z] at k
  refine ⟨fun z => ?_, fun z => ?_⟩
  · rwa [if_pos z] at k
  rw [if_neg z] at k
  refine ⟨fun z => ?_, fun z => ?_⟩
  · rwa [if_pos z] at k
  rw [if_neg z] at k
  refine ⟨fun z => ?_, fun z => ?_⟩
  · rwa [if_pos z] at k
  rw [if_neg z] at k
  refine ⟨fun z => ?_, fun z => ?_⟩
  · rwa [if_pos z] at k
  rwa [if_neg z] at k
