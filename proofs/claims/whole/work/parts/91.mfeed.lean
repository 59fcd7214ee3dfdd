def byT (x k : Int32) : Int32 := vp_nar .byte (Int8.toInt32 (Int32.toInt8 (x >>> (k &&& 31))))
def pt4 (x : Int32) : List Int32 := [byT x 24, byT x 16, byT x 8, byT x 0]
theorem RW.put {h : AH} {m : Nat} {T : TW} {cls : List (List (List (Nat × Nat) × List (Nat × Nat)))} {tp : List Int32} {im : Nat → Option TW} {b : Int32} (H : RW h m (T, cls, tp, im)) (hl : tp.length < 400) : RW (sI (sI h (m + 21) tp.length b) m 21 (nI tp.length + 1)) m (T, cls, tp ++ [b], im) := by
  have f : Fr' h (sI (sI h (m + 21) tp.length b) m 21 (nI tp.length + 1)) (fun c => c = m ∨ c = m + 21) := (Fr'.sI (Or.inr rfl)).trans (Fr'.sI (Or.inl rfl))
  have w := H.2.2.2.2.1
  refine H.tp f (fun c z => z) (fun j hj => by rw [hI_sI, if_pos rfl, if_neg hj, hI_sI, if_neg (by omega)]) (by rw [hI_sI, if_pos rfl, if_pos rfl, nI_1]; simp) (by simp; omega) (fun i v hv => ?_)
  rw [hI_sI, if_neg (by omega), hI_sI, if_pos rfl]
  by_cases c : i < tp.length
  · rw [List.getElem?_append_left c] at hv
    rw [if_neg (by omega)]
    exact w.2.2 i v hv
  · have := getq_lt hv
    simp at this
    have e : i = tp.length := by omega
    subst e
    rw [List.getElem?_append_right (Nat.le_refl _)] at hv
    simp at hv
    rw [if_pos rfl, hv]
theorem mp_step {d E1 E2 : Nat} {Q : Option Value → AH → Prop} {h : AH} (hd : 4 ≤ d) (m : Nat) (T : TW) (cls : List (List (List (Nat × Nat) × List (Nat × Nat)))) (tp : List Int32) (im : Nat → Option TW) (x v w : Int32) (hv : ¬ v < 0) (hw : v + (-8) = w) (H : RW h m (T, cls, tp, im)) (hl : tp.length < 400) (k : ∀ h', Fr' h h' (fun c => c = m ∨ c = m + 21) → RW h' m (T, cls, tp ++ [byT x v], im) → Reach d nX12_put (3, [.ref m, .int x, .int w], []) h' E1 E2 Q) : Reach d nX12_put (3, [.ref m, .int x, .int v], []) h E1 E2 Q := by
  have HM := H.mod
  have w7 := H.2.2.2.2.1.1
  refine wX12_put_3 hd m x v ?_
  simp only [rt_i, rt_b0, rt_b1, rt_v, rt_l, rt_o, rt_a, rV_none, rI_some, rL_some, rR_some, rT_some, rt_bI, hIf_sL, hIf_sR, hS_sI, hS_sL, hS_sR, hS_cpI, hR_sI, hR_sL, hR_cpI, hL_sI, hL_sR, hL_cpI, hI_sL, hI_sR, hN_sI, hN_sL, hN_sR, hN_cpI, hU_sI, hU_sL, hU_sR, hU_cpI, tn0, tn1, tn2, tn3, tn4, tn5, tn6, tn7, tn8, tn9, tn10, tn11, tn12, tn13, tn14, tn15, tn16, tn17, tn18, tn19, tn20, tn21, tn22, tn23, tn24, tn25, tn26, tn27, tn28, tn29, tn30, tn31, tn32, tn33, tn34, tn35, tn36, tn37, tn38, tn39, tn40, tn41, tn42, tn43, tn44, tn45, tn46, tn47, tn48, tn49, tn50, tn51, tn52, tn53, tn54, tn55, tn56, tn57, tn58, tn59, tn60, lH_eq, true_and, and_true, mdq_0 HM, mdq_31 HM, mds_31 HM, w7, hw, nI_clamp (show tp.length < 2 ^ 31 by omega), hI_sI, show (m = m + 21) = False by simp, if_false]
  refine ⟨fun z => absurd z hv, fun _ => ⟨by decide, vp_in_nI hl (by decide), fun _ => ?_, fun z => absurd z (by decide)⟩⟩
  exact k _ ((Fr'.sI (Or.inr rfl)).trans (Fr'.sI (Or.inl rfl))) (H.put hl)
theorem m_put {d : Nat} {h : AH} {Q : Option Value → AH → Prop} (hd : 5 ≤ d) (m : Nat) (T : TW) (cls : List (List (List (Nat × Nat) × List (Nat × Nat)))) (tp : List Int32) (im : Nat → Option TW) (x : Int32) (H : RW h m (T, cls, tp, im)) (hl : tp.length + 4 ≤ 400) (k : ∀ h', Fr' h h' (fun c => c = m ∨ c = m + 21) → RW h' m (T, cls, tp ++ pt4 x, im) → Q none h') : Calls d nX12_put [.ref m, .int x] h (hN h) (hU h) Q := by
  obtain ⟨e, rfl⟩ : ∃ e, d = e + 1 := ⟨d - 1, by omega⟩
  refine wX12_put (by omega) m x ?_
  refine mp_step (by omega) m T cls tp im x 24 16 (by decide) (by decide) H (by omega) (fun h1 f1 H1 => ?_)
  refine mp_step (by omega) m T cls _ im x 16 8 (by decide) (by decide) H1 (by simp; omega) (fun h2 f2 H2 => ?_)
  refine mp_step (by omega) m T cls _ im x 8 0 (by decide) (by decide) H2 (by simp; omega) (fun h3 f3 H3 => ?_)
  refine mp_step (by omega) m T cls _ im x 0 (-8) (by decide) (by decide) H3 (by simp; omega) (fun h4 f4 H4 => ?_)
  refine wX12_put_3 (by omega) m x (-8) ?_
  have f := ((f1.trans f2).trans f3).trans f4
  have e : tp ++ [byT x 24] ++ [byT x 16] ++ [byT x 8] ++ [byT x 0] = tp ++ pt4 x := by simp [pt4]
  rw [e] at H4
  simp only [rt_i, rt_b0, rt_b1, rt_v, rt_l, rt_o, rt_a, rV_none, rI_some, rL_some, rR_some, rT_some, rt_bI, hIf_sL, hIf_sR, hS_sI, hS_sL, hS_sR, hS_cpI, hR_sI, hR_sL, hR_cpI, hL_sI, hL_sR, hL_cpI, hI_sL, hI_sR, hN_sI, hN_sL, hN_sR, hN_cpI, hU_sI, hU_sL, hU_sR, hU_cpI, tn0, tn1, tn2, tn3, tn4, tn5, tn6, tn7, tn8, tn9, tn10, tn11, tn12, tn13, tn14, tn15, tn16, tn17, tn18, tn19, tn20, tn21, tn22, tn23, tn24, tn25, tn26, tn27, tn28, tn29, tn30, tn31, tn32, tn33, tn34, tn35, tn36, tn37, tn38, tn39, tn40, tn41, tn42, tn43, tn44, tn45, tn46, tn47, tn48, tn49, tn50, tn51, tn52, tn53, tn54, tn55, tn56, tn57, tn58, tn59, tn60, lH_eq, true_and, and_true]
  exact ⟨fun _ => ⟨f.2.2.1, f.2.2.2.1, k h4 f H4⟩, fun z => absurd (by decide) z⟩
def oFeed (tp : List Int32) (a b c d e : Int32) : Int32 × List Int32 := if tp.length + 20 ≤ 400 then (nI (tp.length + 20), tp ++ pt4 a ++ pt4 b ++ pt4 c ++ pt4 d ++ pt4 e) else (-1, tp)
theorem pt4_len (x : Int32) : (pt4 x).length = 4 := rfl
theorem m_feed {d : Nat} {h : AH} {Q : Option Value → AH → Prop} (hd : 6 ≤ d) (m : Nat) (T : TW) (cls : List (List (List (Nat × Nat) × List (Nat × Nat)))) (tp : List Int32) (im : Nat → Option TW) (a1 a2 a3 a4 a5 : Int32) (H : RW h m (T, cls, tp, im)) (k : ∀ h', Fr' h h' (MZ m) → RW h' m (T, cls, (oFeed tp a1 a2 a3 a4 a5).2, im) → Q (some (.int (oFeed tp a1 a2 a3 a4 a5).1)) h') : Calls d nX12_feed [.ref m, .int a1, .int a2, .int a3, .int a4, .int a5] h (hN h) (hU h) Q := by
  obtain ⟨e, rfl⟩ : ∃ e, d = e + 1 := ⟨d - 1, by omega⟩
  have HM := H.mod
  have w7 := H.2.2.2.2.1.1
  have w8 := H.2.2.2.2.1.2.1
  have c4 : (nI tp.length + 20 ≤ (400 : Int32)) = (tp.length + 20 ≤ 400) := by
    rw [show nI tp.length + 20 = nI (tp.length + 20) from nI_add tp.length 20]
    exact nI_le_iff (b := 400) (by omega) (by decide)
  unfold oFeed at k
  refine wX12_feed (by omega) m a1 a2 a3 a4 a5 ?_
  simp only [rt_i, rt_b0, rt_b1, rt_v, rt_l, rt_o, rt_a, rV_none, rI_some, rL_some, rR_some, rT_some, rt_bI, hIf_sL, hIf_sR, hS_sI, hS_sL, hS_sR, hS_cpI, hR_sI, hR_sL, hR_cpI, hL_sI, hL_sR, hL_cpI, hI_sL, hI_sR, hN_sI, hN_sL, hN_sR, hN_cpI, hU_sI, hU_sL, hU_sR, hU_cpI, tn0, tn1, tn2, tn3, tn4, tn5, tn6, tn7, tn8, tn9, tn10, tn11, tn12, tn13, tn14, tn15, tn16, tn17, tn18, tn19, tn20, tn21, tn22, tn23, tn24, tn25, tn26, tn27, tn28, tn29, tn30, tn31, tn32, tn33, tn34, tn35, tn36, tn37, tn38, tn39, tn40, tn41, tn42, tn43, tn44, tn45, tn46, tn47, tn48, tn49, tn50, tn51, tn52, tn53, tn54, tn55, tn56, tn57, tn58, tn59, tn60, lH_eq, true_and, and_true, mdq_0 HM, w7, c4]
  refine ⟨fun z => ?_, fun z => ?_⟩
  · rw [if_pos z] at k
    refine m_put (by omega) m T cls tp im a1 H (by omega) (fun h1 f1 H1 => ?_)
    simp only [rV_none, mdq_0 H1.mod, true_and]
    refine m_put (by omega) m T cls _ im a2 H1 (by simp only [List.length_append, pt4_len]; omega) (fun h2 f2 H2 => ?_)
    simp only [rV_none, mdq_0 H2.mod, true_and]
    refine m_put (by omega) m T cls _ im a3 H2 (by simp only [List.length_append, pt4_len]; omega) (fun h3 f3 H3 => ?_)
    simp only [rV_none, mdq_0 H3.mod, true_and]
    refine m_put (by omega) m T cls _ im a4 H3 (by simp only [List.length_append, pt4_len]; omega) (fun h4 f4 H4 => ?_)
    simp only [rV_none, mdq_0 H4.mod, true_and]
    refine m_put (by omega) m T cls _ im a5 H4 (by simp only [List.length_append, pt4_len]; omega) (fun h5 f5 H5 => ?_)
    have f := (((f1.trans f2).trans f3).trans f4).trans f5
    have e5 : hI h5 m 21 = nI (tp.length + 20) := by
      rw [H5.2.2.2.2.1.1]
      simp only [List.length_append, pt4_len]
    simp only [rV_none, rt_i, rt_b0, rt_b1, rt_v, rt_l, rt_o, rt_a, rV_none, rI_some, rL_some, rR_some, rT_some, rt_bI, hIf_sL, hIf_sR, hS_sI, hS_sL, hS_sR, hS_cpI, hR_sI, hR_sL, hR_cpI, hL_sI, hL_sR, hL_cpI, hI_sL, hI_sR, hN_sI, hN_sL, hN_sR, hN_cpI, hU_sI, hU_sL, hU_sR, hU_cpI, tn0, tn1, tn2, tn3, tn4, tn5, tn6, tn7, tn8, tn9, tn10, tn11, tn12, tn13, tn14, tn15, tn16, tn17, tn18, tn19, tn20, tn21, tn22, tn23, tn24, tn25, tn26, tn27, tn28, tn29, tn30, tn31, tn32, tn33, tn34, tn35, tn36, tn37, tn38, tn39, tn40, tn41, tn42, tn43, tn44, tn45, tn46, tn47, tn48, tn49, tn50, tn51, tn52, tn53, tn54, tn55, tn56, tn57, tn58, tn59, tn60, lH_eq, true_and, and_true, mdq_0 H5.mod, e5]
    exact ⟨f.2.2.1, f.2.2.2.1, k h5 (f.mono (fun c z => by unfold MZ; omega)) H5⟩
  · rw [if_neg z] at k
    exact k h (Fr'.refl _ _) H
