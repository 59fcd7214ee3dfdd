theorem by_key (b : BitVec 32) (n : Nat) (hn : n ≤ 24) : (b.ushiftRight n).signExtend 8 = (b.sshiftRight n).signExtend 8 := by
  rw [BitVec.signExtend_eq_setWidth_of_le _ (by decide), BitVec.signExtend_eq_setWidth_of_le _ (by decide)]
  apply BitVec.eq_of_getLsbD_eq
  intro i hi
  simp only [BitVec.getLsbD_setWidth, BitVec.getLsbD_sshiftRight, BitVec.ushiftRight_eq, BitVec.getLsbD_ushiftRight]
  have : n + i < 32 := by omega
  simp [hi, this]
  omega
theorem by_eq (x : Int32) (k : Int32) (hk : k = 24 ∨ k = 16 ∨ k = 8 ∨ k = 0) : Int32.toInt8 ((Int32.toUInt32 x >>> (Int32.toUInt32 k &&& Int32.toUInt32 31)).toInt32) = Int32.toInt8 (x >>> (k &&& 31)) := by
  rcases hk with rfl | rfl | rfl | rfl
  · apply Int8.toBitVec_inj.mp
    exact by_key x.toBitVec 24 (by decide)
  · apply Int8.toBitVec_inj.mp
    exact by_key x.toBitVec 16 (by decide)
  · apply Int8.toBitVec_inj.mp
    exact by_key x.toBitVec 8 (by decide)
  · apply Int8.toBitVec_inj.mp
    exact by_key x.toBitVec 0 (by decide)
theorem CW.text {pz : PZT} {h h' : AH} {x : Nat} {T : TW} {cls : List (List (List (Nat × Nat) × List (Nat × Nat)))} {tp tp' : List Int32} {im : Nat → Option TW} {S : Nat → Prop} (H : CW pz h x (T, cls, tp, im)) (f : Fr' h h' S) (hs : ∀ c, S c → c = x + 2 ∨ c = x + 3) (HT : cTx h' x tp') : CW pz h' x (T, cls, tp', im) := by
  obtain ⟨H1, ⟨H2, H3⟩, H4, H5, H6, H7, H8, H9, H10⟩ := H
  have w := H1.1.1
  have hx := H1.1.2.1
  have F := FrG.of f
  have gd : ∀ c, x + 145 ≤ c → ¬ S c := fun c hc z => by have := hs c z; omega
  have gl : ∀ c, c ≠ x + 2 → c ≠ x + 3 → ¬ S c := fun c h1 h2 z => by have := hs c z; omega
  exact ⟨H1.frg F (gl x (by omega) (by omega)), H2.frd w H3 F (fun b h1 h2 => gl b (by omega) (by omega)) gd, H4.frg w hx F (gl x (by omega) (by omega)) (gl _ (by omega) (by omega)) (fun i c hc b h1 _ => gd b (by have := H4.2.2 i c hc; omega)), HT, H6.frg w hx F (gl _ (by omega) (by omega)) (gl _ (by omega) (by omega)) gd, H7.far f (fun c z => by have := hs c z; omega), H8.frg hx F (gl _ (by omega) (by omega)) (gl _ (by omega) (by omega)), H9.frg H6 w hx F (gl _ (by omega) (by omega)) (gl _ (by omega) (by omega)) gd, H10.frg hx F (fun c h1 h2 z => by have := hs c z; omega)⟩
theorem c_end {pz : PZT} {d : Nat} {h : AH} {Q : Option Value → AH → Prop} (hd : 5 ≤ d) (x : Nat) (T : TW) (cls : List (List (List (Nat × Nat) × List (Nat × Nat)))) (tp : List Int32) (im : Nat → Option TW) (n : Int32) (H : CW pz h x (T, cls, tp, im)) (k : ∀ h', Fr' h h' (fun c => c = x + 2) → CW pz h' x (T, cls, (oEnd tp n).2, im) → Q (some (.int (oEnd tp n).1)) h') : Calls d nX11_end [.ref x, .int n] h (hN h) (hU h) Q := by
  obtain ⟨e, rfl⟩ : ∃ e, d = e + 1 := ⟨d - 1, by omega⟩
  have HC := H
  obtain ⟨⟨-, s0, p0, p1, p2, p4, p5, p6, p7, p8, p9, p10⟩, -, -, ⟨t1, t2, t3, t4, t5, t6⟩, -⟩ := H
  have t3 : hI h (x + 2) 1 = nI tp.length := t3
  have t5 : tp.length ≤ 400 := t5
  refine wX11_end (by omega) x n ?_
  simp only [rt_i, rt_b0, rt_b1, rt_v, rt_l, rt_o, rt_a, rV_none, rI_some, rL_some, rR_some, rT_some, rt_bI, hIf_sL, hIf_sR, hS_sI, hS_sL, hS_sR, hS_cpI, hR_sI, hR_sL, hR_cpI, hL_sI, hL_sR, hL_cpI, hI_sL, hI_sR, hN_sI, hN_sL, hN_sR, hN_cpI, hU_sI, hU_sL, hU_sR, hU_cpI, tn0, tn1, tn2, tn3, tn4, tn5, tn6, tn7, tn8, tn9, tn10, tn11, tn12, tn13, tn14, tn15, tn16, tn17, tn18, tn19, tn20, tn21, tn22, tn23, tn24, tn25, tn26, tn27, tn28, tn29, tn30, tn31, tn32, tn33, tn34, tn35, tn36, tn37, tn38, tn39, tn40, tn41, tn42, tn43, tn44, tn45, tn46, tn47, tn48, tn49, tn50, tn51, tn52, tn53, tn54, tn55, tn56, tn57, tn58, tn59, tn60, lH_eq, true_and, and_true, s0, p1, t2, t3]
  refine ⟨fun z => ?_, fun z => ⟨fun y => ?_, fun y => ?_⟩⟩
  · have e : oEnd tp n = (-1, tp) := by unfold oEnd; rw [if_neg (fun x => absurd z (Int32.not_lt.mpr x.1))]
    rw [e] at k
    exact k h (Fr'.refl _ _) HC
  · have z := Int32.not_lt.mp z
    obtain ⟨i, hi, rfl⟩ := rg_of (n := tp.length) rfl (by omega) ⟨z, y⟩
    have e : oEnd tp (nI i) = (nI i, tp.take i) := by unfold oEnd; rw [if_pos ⟨z, y⟩, nI_clamp (by omega)]
    rw [e] at k
    have f : Fr' h (sI h (x + 2) 1 (nI i)) (fun c => c = x + 2) := Fr'.sI rfl
    refine k _ f (HC.text f (fun c z => Or.inl z) ⟨t1, t2, by rw [hI_sI, if_pos rfl, if_pos rfl]; simp; rw [Nat.min_eq_left hi], t4, by simp; omega, fun j b hb => ?_⟩)
    rw [hI_sI, if_neg (by omega)]
    simp only [List.getElem?_take] at hb
    split at hb
    · exact t6 j b hb
    · cases hb
  · have e : oEnd tp n = (-1, tp) := by unfold oEnd; rw [if_neg (fun x => y x.2)]
    rw [e] at k
    exact k h (Fr'.refl _ _) HC
theorem CW.put {pz : PZT} {h : AH} {x : Nat} {T : TW} {cls : List (List (List (Nat × Nat) × List (Nat × Nat)))} {tp : List Int32} {im : Nat → Option TW} {b : Int32} (H : CW pz h x (T, cls, tp, im)) (hl : tp.length < 400) : CW pz (sI (sI h (x + 3) tp.length b) (x + 2) 1 (nI tp.length + 1)) x (T, cls, tp ++ [b], im) := by
  have f : Fr' h (sI (sI h (x + 3) tp.length b) (x + 2) 1 (nI tp.length + 1)) (fun c => c = x + 2 ∨ c = x + 3) := (Fr'.sI (Or.inr rfl)).trans (Fr'.sI (Or.inl rfl))
  obtain ⟨t1, t2, t3, t4, t5, t6⟩ := H.2.2.2.1
  refine H.text f (fun c z => z) ⟨t1, t2, by rw [hI_sI, if_pos rfl, if_pos rfl, nI_1]; simp, t4, by simp; omega, fun i v hv => ?_⟩
  rw [hI_sI, if_neg (by omega), hI_sI, if_pos rfl]
  by_cases c : i < tp.length
  · rw [List.getElem?_append_left c] at hv
    rw [if_neg (by omega)]
    exact t6 i v hv
  · have := getq_lt hv
    simp at this
    have e : i = tp.length := by omega
    subst e
    rw [List.getElem?_append_right (Nat.le_refl _)] at hv
    simp at hv
    rw [if_pos rfl, hv]
theorem cp_step {pz : PZT} {d E1 E2 : Nat} {Q : Option Value → AH → Prop} {h : AH} (hd : 4 ≤ d) (x : Nat) (T : TW) (cls : List (List (List (Nat × Nat) × List (Nat × Nat)))) (tp : List Int32) (im : Nat → Option TW) (y v w : Int32) (hk : v = 24 ∨ v = 16 ∨ v = 8 ∨ v = 0) (hw : v + (-8) = w) (H : CW pz h x (T, cls, tp, im)) (hl : tp.length < 400) (k : ∀ h', Fr' h h' (fun c => c = x + 2 ∨ c = x + 3) → CW pz h' x (T, cls, tp ++ [byT y v], im) → Reach d nX8_append (3, [.ref (x + 2), .int y, .int w], []) h' E1 E2 Q) : Reach d nX8_append (3, [.ref (x + 2), .int y, .int v], []) h E1 E2 Q := by
  obtain ⟨t1, t2, t3, t4, t5, t6⟩ := H.2.2.2.1
  have t3 : hI h (x + 2) 1 = nI tp.length := t3
  have hv : ¬ v < 0 := by rcases hk with rfl | rfl | rfl | rfl <;> decide
  have hc : ((400 : Int32) ≤ nI tp.length) = (400 ≤ tp.length) := nI_le_iff (a := 400) (by decide) (by omega)
  have eb := by_eq y v hk
  refine wX8_append_3 hd (x + 2) y v ?_
  simp only [rt_i, rt_b0, rt_b1, rt_v, rt_l, rt_o, rt_a, rV_none, rI_some, rL_some, rR_some, rT_some, rt_bI, hIf_sL, hIf_sR, hS_sI, hS_sL, hS_sR, hS_cpI, hR_sI, hR_sL, hR_cpI, hL_sI, hL_sR, hL_cpI, hI_sL, hI_sR, hN_sI, hN_sL, hN_sR, hN_cpI, hU_sI, hU_sL, hU_sR, hU_cpI, tn0, tn1, tn2, tn3, tn4, tn5, tn6, tn7, tn8, tn9, tn10, tn11, tn12, tn13, tn14, tn15, tn16, tn17, tn18, tn19, tn20, tn21, tn22, tn23, tn24, tn25, tn26, tn27, tn28, tn29, tn30, tn31, tn32, tn33, tn34, tn35, tn36, tn37, tn38, tn39, tn40, tn41, tn42, tn43, tn44, tn45, tn46, tn47, tn48, tn49, tn50, tn51, tn52, tn53, tn54, tn55, tn56, tn57, tn58, tn59, tn60, lH_eq, true_and, and_true, t1, t2, t3, t4, hc, hw, eb, nI_clamp (show tp.length < 2 ^ 31 by omega), hI_sI, show (x + 2 = x + 3) = False by simp, if_false]
  refine ⟨fun z => absurd z hv, fun _ => ⟨fun z => absurd z (by omega), fun _ => ⟨by decide, vp_in_nI hl (by decide), fun _ => ?_, fun z => absurd z (by decide)⟩⟩⟩
  exact k _ ((Fr'.sI (Or.inr rfl)).trans (Fr'.sI (Or.inl rfl))) (H.put hl)
theorem c_append {pz : PZT} {d : Nat} {h : AH} {Q : Option Value → AH → Prop} (hd : 5 ≤ d) (x : Nat) (T : TW) (cls : List (List (List (Nat × Nat) × List (Nat × Nat)))) (tp : List Int32) (im : Nat → Option TW) (y : Int32) (H : CW pz h x (T, cls, tp, im)) (hl : tp.length + 4 ≤ 400) (k : ∀ h', Fr' h h' (fun c => c = x + 2 ∨ c = x + 3) → CW pz h' x (T, cls, tp ++ pt4 y, im) → Q none h') : Calls d nX8_append [.ref (x + 2), .int y] h (hN h) (hU h) Q := by
  obtain ⟨e, rfl⟩ : ∃ e, d = e + 1 := ⟨d - 1, by omega⟩
  refine wX8_append (by omega) (x + 2) y ?_
  refine cp_step (by omega) x T cls tp im y 24 16 (by decide) (by decide) H (by omega) (fun h1 f1 H1 => ?_)
  refine cp_step (by omega) x T cls _ im y 16 8 (by decide) (by decide) H1 (by simp; omega) (fun h2 f2 H2 => ?_)
  refine cp_step (by omega) x T cls _ im y 8 0 (by decide) (by decide) H2 (by simp; omega) (fun h3 f3 H3 => ?_)
  refine cp_step (by omega) x T cls _ im y 0 (-8) (by decide) (by decide) H3 (by simp; omega) (fun h4 f4 H4 => ?_)
  refine wX8_append_3 (by omega) (x + 2) y (-8) ?_
  have f := ((f1.trans f2).trans f3).trans f4
  have e : tp ++ [byT y 24] ++ [byT y 16] ++ [byT y 8] ++ [byT y 0] = tp ++ pt4 y := by simp [pt4]
  rw [e] at H4
  simp only [rt_i, rt_b0, rt_b1, rt_v, rt_l, rt_o, rt_a, rV_none, rI_some, rL_some, rR_some, rT_some, rt_bI, hIf_sL, hIf_sR, hS_sI, hS_sL, hS_sR, hS_cpI, hR_sI, hR_sL, hR_cpI, hL_sI, hL_sR, hL_cpI, hI_sL, hI_sR, hN_sI, hN_sL, hN_sR, hN_cpI, hU_sI, hU_sL, hU_sR, hU_cpI, tn0, tn1, tn2, tn3, tn4, tn5, tn6, tn7, tn8, tn9, tn10, tn11, tn12, tn13, tn14, tn15, tn16, tn17, tn18, tn19, tn20, tn21, tn22, tn23, tn24, tn25, tn26, tn27, tn28, tn29, tn30, tn31, tn32, tn33, tn34, tn35, tn36, tn37, tn38, tn39, tn40, tn41, tn42, tn43, tn44, tn45, tn46, tn47, tn48, tn49, tn50, tn51, tn52, tn53, tn54, tn55, tn56, tn57, tn58, tn59, tn60, lH_eq, true_and, and_true]
  exact ⟨fun _ => ⟨f.2.2.1, f.2.2.2.1, k h4 f H4⟩, fun z => absurd (by decide) z⟩
theorem c_feed {pz : PZT} {d : Nat} {h : AH} {Q : Option Value → AH → Prop} (hd : 6 ≤ d) (x : Nat) (T : TW) (cls : List (List (List (Nat × Nat) × List (Nat × Nat)))) (tp : List Int32) (im : Nat → Option TW) (a1 a2 a3 a4 a5 : Int32) (H : CW pz h x (T, cls, tp, im)) (k : ∀ h', Fr' h h' (fun c => c = x + 2 ∨ c = x + 3) → CW pz h' x (T, cls, (oFeed tp a1 a2 a3 a4 a5).2, im) → Q (some (.int (oFeed tp a1 a2 a3 a4 a5).1)) h') : Calls d nX11_feed [.ref x, .int a1, .int a2, .int a3, .int a4, .int a5] h (hN h) (hU h) Q := by
  obtain ⟨e, rfl⟩ : ∃ e, d = e + 1 := ⟨d - 1, by omega⟩
  have hd4 : ∀ {h : AH} {tp : List Int32}, CW pz h x (T, cls, tp, im) → hS h x = (21, 11) ∧ hR h x 1 = x + 2 ∧ hS h (x + 2) = (18, 7) ∧ hI h (x + 2) 1 = nI tp.length ∧ tp.length ≤ 400 := fun H => ⟨H.1.2.1, H.1.2.2.2.1, H.2.2.2.1.2.1, H.2.2.2.1.2.2.1, H.2.2.2.1.2.2.2.2.1⟩
  obtain ⟨s0, p1, t2, t3, t5⟩ := hd4 H
  have c4 : (nI tp.length + 20 ≤ (400 : Int32)) = (tp.length + 20 ≤ 400) := by
    rw [show nI tp.length + 20 = nI (tp.length + 20) from nI_add tp.length 20]
    exact nI_le_iff (b := 400) (by omega) (by decide)
  unfold oFeed at k
  refine wX11_feed (by omega) x a1 a2 a3 a4 a5 ?_
  simp only [rt_i, rt_b0, rt_b1, rt_v, rt_l, rt_o, rt_a, rV_none, rI_some, rL_some, rR_some, rT_some, rt_bI, hIf_sL, hIf_sR, hS_sI, hS_sL, hS_sR, hS_cpI, hR_sI, hR_sL, hR_cpI, hL_sI, hL_sR, hL_cpI, hI_sL, hI_sR, hN_sI, hN_sL, hN_sR, hN_cpI, hU_sI, hU_sL, hU_sR, hU_cpI, tn0, tn1, tn2, tn3, tn4, tn5, tn6, tn7, tn8, tn9, tn10, tn11, tn12, tn13, tn14, tn15, tn16, tn17, tn18, tn19, tn20, tn21, tn22, tn23, tn24, tn25, tn26, tn27, tn28, tn29, tn30, tn31, tn32, tn33, tn34, tn35, tn36, tn37, tn38, tn39, tn40, tn41, tn42, tn43, tn44, tn45, tn46, tn47, tn48, tn49, tn50, tn51, tn52, tn53, tn54, tn55, tn56, tn57, tn58, tn59, tn60, lH_eq, true_and, and_true, s0, p1, t2, t3, c4]
  refine ⟨fun z => ?_, fun z => ?_⟩
  · rw [if_pos z] at k
    refine c_append (by omega) x T cls tp im a1 H (by omega) (fun h1 f1 H1 => ?_)
    simp only [rV_none, (hd4 H1).1, (hd4 H1).2.1, (hd4 H1).2.2.1, true_and]
    refine c_append (by omega) x T cls _ im a2 H1 (by simp only [List.length_append, pt4_len]; omega) (fun h2 f2 H2 => ?_)
    simp only [rV_none, (hd4 H2).1, (hd4 H2).2.1, (hd4 H2).2.2.1, true_and]
    refine c_append (by omega) x T cls _ im a3 H2 (by simp only [List.length_append, pt4_len]; omega) (fun h3 f3 H3 => ?_)
    simp only [rV_none, (hd4 H3).1, (hd4 H3).2.1, (hd4 H3).2.2.1, true_and]
    refine c_append (by omega) x T cls _ im a4 H3 (by simp only [List.length_append, pt4_len]; omega) (fun h4 f4 H4 => ?_)
    simp only [rV_none, (hd4 H4).1, (hd4 H4).2.1, (hd4 H4).2.2.1, true_and]
    refine c_append (by omega) x T cls _ im a5 H4 (by simp only [List.length_append, pt4_len]; omega) (fun h5 f5 H5 => ?_)
    have f := (((f1.trans f2).trans f3).trans f4).trans f5
    have e5 : hI h5 (x + 2) 1 = nI (tp.length + 20) := by
      rw [(hd4 H5).2.2.2.1]
      simp only [List.length_append, pt4_len]
    simp only [rV_none, rt_i, rt_b0, rt_b1, rt_v, rt_l, rt_o, rt_a, rV_none, rI_some, rL_some, rR_some, rT_some, rt_bI, hIf_sL, hIf_sR, hS_sI, hS_sL, hS_sR, hS_cpI, hR_sI, hR_sL, hR_cpI, hL_sI, hL_sR, hL_cpI, hI_sL, hI_sR, hN_sI, hN_sL, hN_sR, hN_cpI, hU_sI, hU_sL, hU_sR, hU_cpI, tn0, tn1, tn2, tn3, tn4, tn5, tn6, tn7, tn8, tn9, tn10, tn11, tn12, tn13, tn14, tn15, tn16, tn17, tn18, tn19, tn20, tn21, tn22, tn23, tn24, tn25, tn26, tn27, tn28, tn29, tn30, tn31, tn32, tn33, tn34, tn35, tn36, tn37, tn38, tn39, tn40, tn41, tn42, tn43, tn44, tn45, tn46, tn47, tn48, tn49, tn50, tn51, tn52, tn53, tn54, tn55, tn56, tn57, tn58, tn59, tn60, lH_eq, true_and, and_true, (hd4 H5).1, (hd4 H5).2.1, (hd4 H5).2.2.1, e5]
    exact ⟨f.2.2.1, f.2.2.2.1, k h5 f H5⟩
  · rw [if_neg z] at k
    exact k h (Fr'.refl _ _) H
