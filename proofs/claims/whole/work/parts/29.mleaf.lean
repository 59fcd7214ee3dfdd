/-! leaves of the reference -/
theorem rt_bI (E1 E2 : Nat) (Q : Option Value → AH → Prop) (c : Prop) [Decidable c] (h : AH) : RtOf (some .boolean) E1 E2 Q (some (.int (bI c))) h = (hN h = E1 ∧ hU h = E2 ∧ Q (some (.int (bI c))) h) := by simp [rt_b, bI_01]
theorem hIf_sL (h : AH) (a i : Nat) (x : Int64) (b : Nat) : hI (sL h a i x) b = hI h b := rfl
theorem hIf_sR (h : AH) (a i x b : Nat) : hI (sR h a i x) b = hI h b := rfl
theorem m_in {d : Nat} {h : AH} {Q : Option Value → AH → Prop} (hd : 5 ≤ d) (a b c : Int64) (k : Q (some (.int (bI (b ≤ a ∧ a ≤ c)))) h) : Calls d nX12_in [.long a, .long b, .long c] h (hN h) (hU h) Q := by
  obtain ⟨e, rfl⟩ : ∃ e, d = e + 1 := ⟨d - 1, by omega⟩
  refine wX12_in (by omega) a b c ?_
  simp only [rt_i, rt_b0, rt_b1, rt_v, rt_l, rt_o, rt_a, rV_none, rI_some, rL_some, rR_some, rT_some, rt_bI, hIf_sL, hIf_sR, hS_sI, hS_sL, hS_sR, hS_cpI, hR_sI, hR_sL, hR_cpI, hL_sI, hL_sR, hL_cpI, hI_sL, hI_sR, hN_sI, hN_sL, hN_sR, hN_cpI, hU_sI, hU_sL, hU_sR, hU_cpI, tn0, tn1, tn2, tn3, tn4, tn5, tn6, tn7, tn8, tn9, tn10, tn11, tn12, tn13, tn14, tn15, tn16, tn17, tn18, tn19, tn20, tn21, tn22, tn23, tn24, tn25, tn26, tn27, tn28, tn29, tn30, tn31, tn32, tn33, tn34, tn35, tn36, tn37, tn38, tn39, tn40, tn41, tn42, tn43, tn44, tn45, tn46, tn47, tn48, tn49, tn50, tn51, tn52, tn53, tn54, tn55, tn56, tn57, tn58, tn59, tn60, lH_eq, true_and, and_true, lglt, lggt]
  refine ⟨fun h1 => ?_, fun h1 => ⟨fun h2 => ?_, fun h2 => ?_⟩⟩
  · rwa [bI_f (fun z => absurd z.1 (Int64.not_le.mpr h1))] at k
  · rwa [bI_f (fun z => absurd z.2 (Int64.not_le.mpr h2))] at k
  · rwa [bI_t ⟨i64_le_of h1, i64_le_of h2⟩] at k
theorem bI_cg {c e : Prop} [Decidable c] [Decidable e] (h : c ↔ e) : bI c = bI e := by
  unfold bI
  simp only [h]
theorem m_in32 {d : Nat} {h : AH} {Q : Option Value → AH → Prop} (hd : 5 ≤ d) (x lo hi : Int32) {a b c : Int64} (ha : a = x.toInt64) (hb : b = lo.toInt64) (hc : c = hi.toInt64) (k : Q (some (.int (bI (lo ≤ x ∧ x ≤ hi)))) h) : Calls d nX12_in [.long a, .long b, .long c] h (hN h) (hU h) Q := by
  subst ha hb hc
  refine m_in hd _ _ _ ?_
  rw [bI_cg (e := lo ≤ x ∧ x ≤ hi) (by rw [Int32.toInt64_le, Int32.toInt64_le])]
  exact k
theorem le_pred {a : Int32} {n : Nat} (hn : n < 2 ^ 30) : (a ≤ nI n - 1) = (a < nI n) := by
  have h1 := pk_sub_toInt (a := n) (b := 1) hn (by decide)
  have h2 := nI_toInt (show n < 2 ^ 31 by omega)
  have h3 : nI n - 1 = nI n - nI 1 := rfl
  rw [h3, Int32.le_iff_toInt_le, Int32.lt_iff_toInt_lt, h1, h2]
  apply propext
  omega
theorem m_isHill {d : Nat} {h : AH} {Q : Option Value → AH → Prop} (hd : 5 ≤ d) (m : Nat) (H : ModAt h m) (k : Q (some (.int (bI (0 < hI h (m + 1) 0)))) h) : Calls d nX12_isHill [.ref m] h (hN h) (hU h) Q := by
  obtain ⟨e, rfl⟩ : ∃ e, d = e + 1 := ⟨d - 1, by omega⟩
  refine wX12_isHill (by omega) m ?_
  simp only [rt_i, rt_b0, rt_b1, rt_v, rt_l, rt_o, rt_a, rV_none, rI_some, rL_some, rR_some, rT_some, rt_bI, hIf_sL, hIf_sR, hS_sI, hS_sL, hS_sR, hS_cpI, hR_sI, hR_sL, hR_cpI, hL_sI, hL_sR, hL_cpI, hI_sL, hI_sR, hN_sI, hN_sL, hN_sR, hN_cpI, hU_sI, hU_sL, hU_sR, hU_cpI, tn0, tn1, tn2, tn3, tn4, tn5, tn6, tn7, tn8, tn9, tn10, tn11, tn12, tn13, tn14, tn15, tn16, tn17, tn18, tn19, tn20, tn21, tn22, tn23, tn24, tn25, tn26, tn27, tn28, tn29, tn30, tn31, tn32, tn33, tn34, tn35, tn36, tn37, tn38, tn39, tn40, tn41, tn42, tn43, tn44, tn45, tn46, tn47, tn48, tn49, tn50, tn51, tn52, tn53, tn54, tn55, tn56, tn57, tn58, tn59, tn60, lH_eq, true_and, and_true, mdq_0 H, mdq_1 H, mds_1 H, vl7_0, vl7_1, vl7_2, vl7_3, vl7_4, vl7_5, vl7_6]
  refine ⟨fun h1 => ?_, fun h1 => ?_⟩
  · rwa [bI_f (Int32.not_lt.mpr h1)] at k
  · rwa [bI_t (i32_lt_of h1)] at k
theorem m_isRunner {d : Nat} {h : AH} {Q : Option Value → AH → Prop} (hd : 6 ≤ d) (m nr : Nat) (a : Int32) (H : ModAt h m) (hn : hI h (m + 1) 1 = nI nr) (hr : nr ≤ 5) (k : Q (some (.int (bI (0 ≤ a ∧ a < nI nr)))) h) : Calls d nX12_isRunner [.ref m, .int a] h (hN h) (hU h) Q := by
  obtain ⟨e, rfl⟩ : ∃ e, d = e + 1 := ⟨d - 1, by omega⟩
  refine wX12_isRunner (by omega) m a ?_
  simp only [rt_i, rt_b0, rt_b1, rt_v, rt_l, rt_o, rt_a, rV_none, rI_some, rL_some, rR_some, rT_some, rt_bI, hIf_sL, hIf_sR, hS_sI, hS_sL, hS_sR, hS_cpI, hR_sI, hR_sL, hR_cpI, hL_sI, hL_sR, hL_cpI, hI_sL, hI_sR, hN_sI, hN_sL, hN_sR, hN_cpI, hU_sI, hU_sL, hU_sR, hU_cpI, tn0, tn1, tn2, tn3, tn4, tn5, tn6, tn7, tn8, tn9, tn10, tn11, tn12, tn13, tn14, tn15, tn16, tn17, tn18, tn19, tn20, tn21, tn22, tn23, tn24, tn25, tn26, tn27, tn28, tn29, tn30, tn31, tn32, tn33, tn34, tn35, tn36, tn37, tn38, tn39, tn40, tn41, tn42, tn43, tn44, tn45, tn46, tn47, tn48, tn49, tn50, tn51, tn52, tn53, tn54, tn55, tn56, tn57, tn58, tn59, tn60, lH_eq, true_and, and_true, mdq_0 H, mdq_1 H, mds_1 H, vl7_0, vl7_1, vl7_2, vl7_3, vl7_4, vl7_5, vl7_6, hn]
  refine m_in32 (by omega) a 0 (nI nr - 1) rfl rfl rfl ?_
  simp only [le_pred (show nr < 2 ^ 30 by omega), rt_i, rt_b0, rt_b1, rt_v, rt_l, rt_o, rt_a, rV_none, rI_some, rL_some, rR_some, rT_some, rt_bI, hIf_sL, hIf_sR, hS_sI, hS_sL, hS_sR, hS_cpI, hR_sI, hR_sL, hR_cpI, hL_sI, hL_sR, hL_cpI, hI_sL, hI_sR, hN_sI, hN_sL, hN_sR, hN_cpI, hU_sI, hU_sL, hU_sR, hU_cpI, tn0, tn1, tn2, tn3, tn4, tn5, tn6, tn7, tn8, tn9, tn10, tn11, tn12, tn13, tn14, tn15, tn16, tn17, tn18, tn19, tn20, tn21, tn22, tn23, tn24, tn25, tn26, tn27, tn28, tn29, tn30, tn31, tn32, tn33, tn34, tn35, tn36, tn37, tn38, tn39, tn40, tn41, tn42, tn43, tn44, tn45, tn46, tn47, tn48, tn49, tn50, tn51, tn52, tn53, tn54, tn55, tn56, tn57, tn58, tn59, tn60, lH_eq, true_and, and_true]
  exact k
theorem m_isWare {d : Nat} {h : AH} {Q : Option Value → AH → Prop} (hd : 6 ≤ d) (m nw : Nat) (a : Int32) (H : ModAt h m) (hn : hI h (m + 1) 2 = nI nw) (hr : nw ≤ 6) (k : Q (some (.int (bI (0 ≤ a ∧ a < nI nw)))) h) : Calls d nX12_isWare [.ref m, .int a] h (hN h) (hU h) Q := by
  obtain ⟨e, rfl⟩ : ∃ e, d = e + 1 := ⟨d - 1, by omega⟩
  refine wX12_isWare (by omega) m a ?_
  simp only [rt_i, rt_b0, rt_b1, rt_v, rt_l, rt_o, rt_a, rV_none, rI_some, rL_some, rR_some, rT_some, rt_bI, hIf_sL, hIf_sR, hS_sI, hS_sL, hS_sR, hS_cpI, hR_sI, hR_sL, hR_cpI, hL_sI, hL_sR, hL_cpI, hI_sL, hI_sR, hN_sI, hN_sL, hN_sR, hN_cpI, hU_sI, hU_sL, hU_sR, hU_cpI, tn0, tn1, tn2, tn3, tn4, tn5, tn6, tn7, tn8, tn9, tn10, tn11, tn12, tn13, tn14, tn15, tn16, tn17, tn18, tn19, tn20, tn21, tn22, tn23, tn24, tn25, tn26, tn27, tn28, tn29, tn30, tn31, tn32, tn33, tn34, tn35, tn36, tn37, tn38, tn39, tn40, tn41, tn42, tn43, tn44, tn45, tn46, tn47, tn48, tn49, tn50, tn51, tn52, tn53, tn54, tn55, tn56, tn57, tn58, tn59, tn60, lH_eq, true_and, and_true, mdq_0 H, mdq_1 H, mds_1 H, vl7_0, vl7_1, vl7_2, vl7_3, vl7_4, vl7_5, vl7_6, hn]
  refine m_in32 (by omega) a 0 (nI nw - 1) rfl rfl rfl ?_
  simp only [le_pred (show nw < 2 ^ 30 by omega), rt_i, rt_b0, rt_b1, rt_v, rt_l, rt_o, rt_a, rV_none, rI_some, rL_some, rR_some, rT_some, rt_bI, hIf_sL, hIf_sR, hS_sI, hS_sL, hS_sR, hS_cpI, hR_sI, hR_sL, hR_cpI, hL_sI, hL_sR, hL_cpI, hI_sL, hI_sR, hN_sI, hN_sL, hN_sR, hN_cpI, hU_sI, hU_sL, hU_sR, hU_cpI, tn0, tn1, tn2, tn3, tn4, tn5, tn6, tn7, tn8, tn9, tn10, tn11, tn12, tn13, tn14, tn15, tn16, tn17, tn18, tn19, tn20, tn21, tn22, tn23, tn24, tn25, tn26, tn27, tn28, tn29, tn30, tn31, tn32, tn33, tn34, tn35, tn36, tn37, tn38, tn39, tn40, tn41, tn42, tn43, tn44, tn45, tn46, tn47, tn48, tn49, tn50, tn51, tn52, tn53, tn54, tn55, tn56, tn57, tn58, tn59, tn60, lH_eq, true_and, and_true]
  exact k
theorem m_isThere {d : Nat} {h : AH} {Q : Option Value → AH → Prop} (hd : 5 ≤ d) (m w : Nat) (H : ModAt h m) (hw : w < 6) (he : 0 < hI h (m + 8) w) (k : Q (some (.int (bI (0 < hI h (m + 8) w ∧ irm (hI h (m + 1) 3) (hI h (m + 8) w) = 0)))) h) : Calls d nX12_isThere [.ref m, .int (nI w)] h (hN h) (hU h) Q := by
  obtain ⟨e, rfl⟩ : ∃ e, d = e + 1 := ⟨d - 1, by omega⟩
  refine wX12_isThere (by omega) m (nI w) ?_
  simp only [rt_i, rt_b0, rt_b1, rt_v, rt_l, rt_o, rt_a, rV_none, rI_some, rL_some, rR_some, rT_some, rt_bI, hIf_sL, hIf_sR, hS_sI, hS_sL, hS_sR, hS_cpI, hR_sI, hR_sL, hR_cpI, hL_sI, hL_sR, hL_cpI, hI_sL, hI_sR, hN_sI, hN_sL, hN_sR, hN_cpI, hU_sI, hU_sL, hU_sR, hU_cpI, tn0, tn1, tn2, tn3, tn4, tn5, tn6, tn7, tn8, tn9, tn10, tn11, tn12, tn13, tn14, tn15, tn16, tn17, tn18, tn19, tn20, tn21, tn22, tn23, tn24, tn25, tn26, tn27, tn28, tn29, tn30, tn31, tn32, tn33, tn34, tn35, tn36, tn37, tn38, tn39, tn40, tn41, tn42, tn43, tn44, tn45, tn46, tn47, tn48, tn49, tn50, tn51, tn52, tn53, tn54, tn55, tn56, tn57, tn58, tn59, tn60, lH_eq, true_and, and_true, mdq_0 H, mdq_1 H, mds_1 H, mdq_8 H, mds_8 H, vl7_0, vl7_1, vl7_2, vl7_3, vl7_4, vl7_5, vl7_6, vp_in_nI (show w < 6 by omega) (show 6 < 2 ^ 31 by omega), nI_clamp (show w < 2 ^ 31 by omega), irm_eq]
  refine ⟨fun z => ?_, fun h2 => ?_, fun h2 => ?_⟩
  · rw [z] at he; exact absurd he (by decide)
  · rwa [bI_f (fun z => h2 z.2)] at k
  · rwa [bI_t ⟨he, h2⟩] at k
theorem ahd (p a s t : Int32) : p * t - a * s * t = (p - a * s) * t := Int32.sub_mul.symm
theorem ahd2 (p a s t : Int32) : p * s - a * s * t = (p - a * t) * s := by
  rw [Int32.sub_mul, Int32.mul_assoc, Int32.mul_assoc, Int32.mul_comm s t]
theorem m_isAhead {d : Nat} {h : AH} {Q : Option Value → AH → Prop} (hd : 5 ≤ d) (m r s : Nat) (p : Int32) (H : ModAt h m) (hr : r < 5) (hs : s < 5) (k : Q (some (.int (bI ((p - hI h (m + 2) r * hI h (m + 4) r) * hI h (m + 4) s < (p - hI h (m + 2) s * hI h (m + 4) s) * hI h (m + 4) r ∨ (p - hI h (m + 2) r * hI h (m + 4) r) * hI h (m + 4) s = (p - hI h (m + 2) s * hI h (m + 4) s) * hI h (m + 4) r ∧ r < s)))) h) : Calls d nX12_isAhead [.ref m, .int (nI r), .int (nI s), .int p] h (hN h) (hU h) Q := by
  obtain ⟨e, rfl⟩ : ∃ e, d = e + 1 := ⟨d - 1, by omega⟩
  refine wX12_isAhead (by omega) m (nI r) (nI s) p ?_
  simp only [rt_i, rt_b0, rt_b1, rt_v, rt_l, rt_o, rt_a, rV_none, rI_some, rL_some, rR_some, rT_some, rt_bI, hIf_sL, hIf_sR, hS_sI, hS_sL, hS_sR, hS_cpI, hR_sI, hR_sL, hR_cpI, hL_sI, hL_sR, hL_cpI, hI_sL, hI_sR, hN_sI, hN_sL, hN_sR, hN_cpI, hU_sI, hU_sL, hU_sR, hU_cpI, tn0, tn1, tn2, tn3, tn4, tn5, tn6, tn7, tn8, tn9, tn10, tn11, tn12, tn13, tn14, tn15, tn16, tn17, tn18, tn19, tn20, tn21, tn22, tn23, tn24, tn25, tn26, tn27, tn28, tn29, tn30, tn31, tn32, tn33, tn34, tn35, tn36, tn37, tn38, tn39, tn40, tn41, tn42, tn43, tn44, tn45, tn46, tn47, tn48, tn49, tn50, tn51, tn52, tn53, tn54, tn55, tn56, tn57, tn58, tn59, tn60, lH_eq, true_and, and_true, mdq_0 H, mdq_2 H, mds_2 H, mdq_4 H, mds_4 H, vp_in_nI (show r < 5 by omega) (show 5 < 2 ^ 31 by omega), nI_clamp (show r < 2 ^ 31 by omega), vp_in_nI (show s < 5 by omega) (show 5 < 2 ^ 31 by omega), nI_clamp (show s < 2 ^ 31 by omega), nI_le_iff (show s < 2 ^ 31 by omega) (show r < 2 ^ 31 by omega), ahd, ahd2]
  refine ⟨fun h1 => ?_, fun h1 => ⟨fun h2 => ?_, fun h2 => ⟨fun h3 => ?_, fun h3 => ?_⟩⟩⟩
  · rwa [bI_t (Or.inl h1)] at k
  · rwa [bI_f (fun z => z.elim h1 (fun z => h2 z.1))] at k
  · rwa [bI_f (fun z => z.elim h1 (fun z => absurd z.2 (by omega)))] at k
  · rwa [bI_t (Or.inr ⟨h2, by omega⟩)] at k
/-- sums of the first n -/
def suF (f : Nat → Int32) : Nat → Int32
  | 0 => 0
  | n + 1 => suF f n + f n
theorem aw_loop {d E1 E2 : Nat} {Q : Option Value → AH → Prop} {h : AH} (hd : 4 ≤ d) (m nr : Nat) (H : ModAt h m) (hn : hI h (m + 1) 1 = nI nr) (hr : nr ≤ 5) (e1 : hN h = E1) (e2 : hU h = E2) (k : Q (some (.int (suF (hI h (m + 3)) nr))) h) : ∀ n i : Nat, i + n = nr → Reach d nX12_allWealth (4, [.ref m, .int (suF (hI h (m + 3)) i), .int (nI i)], []) h E1 E2 Q
  | 0, i, hi => by
    have : i = nr := by omega
    subst this
    refine wX12_allWealth_4 hd m _ (nI i) ?_
    simp only [rt_i, rt_b0, rt_b1, rt_v, rt_l, rt_o, rt_a, rV_none, rI_some, rL_some, rR_some, rT_some, rt_bI, hIf_sL, hIf_sR, hS_sI, hS_sL, hS_sR, hS_cpI, hR_sI, hR_sL, hR_cpI, hL_sI, hL_sR, hL_cpI, hI_sL, hI_sR, hN_sI, hN_sL, hN_sR, hN_cpI, hU_sI, hU_sL, hU_sR, hU_cpI, tn0, tn1, tn2, tn3, tn4, tn5, tn6, tn7, tn8, tn9, tn10, tn11, tn12, tn13, tn14, tn15, tn16, tn17, tn18, tn19, tn20, tn21, tn22, tn23, tn24, tn25, tn26, tn27, tn28, tn29, tn30, tn31, tn32, tn33, tn34, tn35, tn36, tn37, tn38, tn39, tn40, tn41, tn42, tn43, tn44, tn45, tn46, tn47, tn48, tn49, tn50, tn51, tn52, tn53, tn54, tn55, tn56, tn57, tn58, tn59, tn60, lH_eq, true_and, and_true, mdq_0 H, mdq_1 H, mds_1 H, mdq_3 H, mds_3 H, vl7_0, vl7_1, vl7_2, vl7_3, vl7_4, vl7_5, vl7_6, hn, nI_le_iff (show i < 2 ^ 31 by omega) (show i < 2 ^ 31 by omega)]
    exact ⟨fun _ => ⟨e1, e2, k⟩, fun z => absurd (Nat.le_refl i) z⟩
  | n + 1, i, hi => by
    refine wX12_allWealth_4 hd m _ (nI i) ?_
    simp only [rt_i, rt_b0, rt_b1, rt_v, rt_l, rt_o, rt_a, rV_none, rI_some, rL_some, rR_some, rT_some, rt_bI, hIf_sL, hIf_sR, hS_sI, hS_sL, hS_sR, hS_cpI, hR_sI, hR_sL, hR_cpI, hL_sI, hL_sR, hL_cpI, hI_sL, hI_sR, hN_sI, hN_sL, hN_sR, hN_cpI, hU_sI, hU_sL, hU_sR, hU_cpI, tn0, tn1, tn2, tn3, tn4, tn5, tn6, tn7, tn8, tn9, tn10, tn11, tn12, tn13, tn14, tn15, tn16, tn17, tn18, tn19, tn20, tn21, tn22, tn23, tn24, tn25, tn26, tn27, tn28, tn29, tn30, tn31, tn32, tn33, tn34, tn35, tn36, tn37, tn38, tn39, tn40, tn41, tn42, tn43, tn44, tn45, tn46, tn47, tn48, tn49, tn50, tn51, tn52, tn53, tn54, tn55, tn56, tn57, tn58, tn59, tn60, lH_eq, true_and, and_true, mdq_0 H, mdq_1 H, mds_1 H, mdq_3 H, mds_3 H, vl7_0, vl7_1, vl7_2, vl7_3, vl7_4, vl7_5, vl7_6, hn, nI_le_iff (show nr < 2 ^ 31 by omega) (show i < 2 ^ 31 by omega), vp_in_nI (show i < 5 by omega) (show 5 < 2 ^ 31 by omega), nI_clamp (show i < 2 ^ 31 by omega), nI_1]
    exact ⟨fun z => absurd z (by omega), fun _ => aw_loop hd m nr H hn hr e1 e2 k n (i + 1) (by omega)⟩
theorem m_allWealth {d : Nat} {h : AH} {Q : Option Value → AH → Prop} (hd : 5 ≤ d) (m nr : Nat) (H : ModAt h m) (hn : hI h (m + 1) 1 = nI nr) (hr : nr ≤ 5) (k : Q (some (.int (suF (hI h (m + 3)) nr))) h) : Calls d nX12_allWealth [.ref m] h (hN h) (hU h) Q := by
  obtain ⟨e, rfl⟩ : ∃ e, d = e + 1 := ⟨d - 1, by omega⟩
  exact wX12_allWealth (by omega) m (aw_loop (by omega) m nr H hn hr rfl rfl k nr 0 (by omega))
theorem rv_loop {d E1 E2 : Nat} {Q : Option Value → AH → Prop} {h : AH} (hd : 4 ≤ d) (m r w : Nat) (H : ModAt h m) (hr : r < 5) (e1 : hN h = E1) (e2 : hU h = E2) (k : Q (some (.int (nI (rvF (hI h (m + 31)) w r)))) h) : ∀ n i : Nat, i + n = r → Reach d nX12_rivals (5, [.ref m, .int (nI r), .int (nI w), .int (nI (rvF (hI h (m + 31)) w i)), .int (nI i)], []) h E1 E2 Q
  | 0, i, hi => by
    have : i = r := by omega
    subst this
    refine wX12_rivals_5 hd m (nI i) (nI w) _ (nI i) ?_
    simp only [rt_i, rt_b0, rt_b1, rt_v, rt_l, rt_o, rt_a, rV_none, rI_some, rL_some, rR_some, rT_some, rt_bI, hIf_sL, hIf_sR, hS_sI, hS_sL, hS_sR, hS_cpI, hR_sI, hR_sL, hR_cpI, hL_sI, hL_sR, hL_cpI, hI_sL, hI_sR, hN_sI, hN_sL, hN_sR, hN_cpI, hU_sI, hU_sL, hU_sR, hU_cpI, tn0, tn1, tn2, tn3, tn4, tn5, tn6, tn7, tn8, tn9, tn10, tn11, tn12, tn13, tn14, tn15, tn16, tn17, tn18, tn19, tn20, tn21, tn22, tn23, tn24, tn25, tn26, tn27, tn28, tn29, tn30, tn31, tn32, tn33, tn34, tn35, tn36, tn37, tn38, tn39, tn40, tn41, tn42, tn43, tn44, tn45, tn46, tn47, tn48, tn49, tn50, tn51, tn52, tn53, tn54, tn55, tn56, tn57, tn58, tn59, tn60, lH_eq, true_and, and_true, nI_le_iff (show i < 2 ^ 31 by omega) (show i < 2 ^ 31 by omega)]
    exact ⟨fun _ => ⟨e1, e2, k⟩, fun z => absurd (Nat.le_refl i) z⟩
  | n + 1, i, hi => by
    have ih := rv_loop hd m r w H hr e1 e2 k n (i + 1) (by omega)
    refine wX12_rivals_5 hd m (nI r) (nI w) _ (nI i) ?_
    simp only [rt_i, rt_b0, rt_b1, rt_v, rt_l, rt_o, rt_a, rV_none, rI_some, rL_some, rR_some, rT_some, rt_bI, hIf_sL, hIf_sR, hS_sI, hS_sL, hS_sR, hS_cpI, hR_sI, hR_sL, hR_cpI, hL_sI, hL_sR, hL_cpI, hI_sL, hI_sR, hN_sI, hN_sL, hN_sR, hN_cpI, hU_sI, hU_sL, hU_sR, hU_cpI, tn0, tn1, tn2, tn3, tn4, tn5, tn6, tn7, tn8, tn9, tn10, tn11, tn12, tn13, tn14, tn15, tn16, tn17, tn18, tn19, tn20, tn21, tn22, tn23, tn24, tn25, tn26, tn27, tn28, tn29, tn30, tn31, tn32, tn33, tn34, tn35, tn36, tn37, tn38, tn39, tn40, tn41, tn42, tn43, tn44, tn45, tn46, tn47, tn48, tn49, tn50, tn51, tn52, tn53, tn54, tn55, tn56, tn57, tn58, tn59, tn60, lH_eq, true_and, and_true, mdq_0 H, mdq_41 H, mds_41 H, vp_in_nI (show i < 5 by omega) (show 5 < 2 ^ 31 by omega), nI_clamp (show i < 2 ^ 31 by omega), nI_le_iff (show r < 2 ^ 31 by omega) (show i < 2 ^ 31 by omega), nI_1, Int32.add_zero]
    simp only [rvF] at ih
    refine ⟨fun z => absurd z (by omega), fun _ => ⟨fun z => ?_, fun z => ?_⟩⟩
    · rwa [if_neg z] at ih
    · rwa [if_pos z] at ih
theorem m_rivals {d : Nat} {h : AH} {Q : Option Value → AH → Prop} (hd : 5 ≤ d) (m r w : Nat) (H : ModAt h m) (hr : r < 5) (k : Q (some (.int (nI (rvF (hI h (m + 31)) w r)))) h) : Calls d nX12_rivals [.ref m, .int (nI r), .int (nI w)] h (hN h) (hU h) Q := by
  obtain ⟨e, rfl⟩ : ∃ e, d = e + 1 := ⟨d - 1, by omega⟩
  exact wX12_rivals (by omega) m (nI r) (nI w) (rv_loop (by omega) m r w H hr rfl rfl k r 0 (by omega))
/-- the reference's way to the greatest purse of the others -/
def leF (pu : Nat → Int32) (r : Nat) : Nat → Int32
  | 0 => -1000
  | n + 1 => if n = r then leF pu r n else if leF pu r n < pu n then pu n else leF pu r n
def leV (pu : Nat → Int32) (r n : Nat) : Int32 := if leF pu r n = -1000 then 0 else pu r - leF pu r n
theorem le_loop {d E1 E2 : Nat} {Q : Option Value → AH → Prop} {h : AH} (hd : 4 ≤ d) (m r nr : Nat) (H : ModAt h m) (hn : hI h (m + 1) 1 = nI nr) (hr : r < nr) (hr5 : nr ≤ 5) (e1 : hN h = E1) (e2 : hU h = E2) (k : Q (some (.int (leV (hI h (m + 2)) r nr))) h) : ∀ n i : Nat, i + n = nr → Reach d nX12_lead (6, [.ref m, .int (nI r), .int (leF (hI h (m + 2)) r i), .int (nI i)], []) h E1 E2 Q
  | 0, i, hi => by
    have : i = nr := by omega
    subst this
    refine wX12_lead_6 hd m (nI r) _ (nI i) ?_
    simp only [rt_i, rt_b0, rt_b1, rt_v, rt_l, rt_o, rt_a, rV_none, rI_some, rL_some, rR_some, rT_some, rt_bI, hIf_sL, hIf_sR, hS_sI, hS_sL, hS_sR, hS_cpI, hR_sI, hR_sL, hR_cpI, hL_sI, hL_sR, hL_cpI, hI_sL, hI_sR, hN_sI, hN_sL, hN_sR, hN_cpI, hU_sI, hU_sL, hU_sR, hU_cpI, tn0, tn1, tn2, tn3, tn4, tn5, tn6, tn7, tn8, tn9, tn10, tn11, tn12, tn13, tn14, tn15, tn16, tn17, tn18, tn19, tn20, tn21, tn22, tn23, tn24, tn25, tn26, tn27, tn28, tn29, tn30, tn31, tn32, tn33, tn34, tn35, tn36, tn37, tn38, tn39, tn40, tn41, tn42, tn43, tn44, tn45, tn46, tn47, tn48, tn49, tn50, tn51, tn52, tn53, tn54, tn55, tn56, tn57, tn58, tn59, tn60, lH_eq, true_and, and_true, mdq_0 H, mdq_1 H, mds_1 H, mdq_2 H, mds_2 H, vl7_0, vl7_1, vl7_2, vl7_3, vl7_4, vl7_5, vl7_6, hn, vp_in_nI (show r < 5 by omega) (show 5 < 2 ^ 31 by omega), nI_clamp (show r < 2 ^ 31 by omega), nI_le_iff (show i < 2 ^ 31 by omega) (show i < 2 ^ 31 by omega)]
    refine ⟨fun _ => ⟨fun z => ?_, fun z => ?_⟩, fun z => absurd (Nat.le_refl i) z⟩
    · rw [leV, if_neg z] at k; exact ⟨e1, e2, k⟩
    · rw [leV, if_pos z] at k; exact ⟨e1, e2, k⟩
  | n + 1, i, hi => by
    have ih := le_loop hd m r nr H hn hr hr5 e1 e2 k n (i + 1) (by omega)
    refine wX12_lead_6 hd m (nI r) _ (nI i) ?_
    simp only [rt_i, rt_b0, rt_b1, rt_v, rt_l, rt_o, rt_a, rV_none, rI_some, rL_some, rR_some, rT_some, rt_bI, hIf_sL, hIf_sR, hS_sI, hS_sL, hS_sR, hS_cpI, hR_sI, hR_sL, hR_cpI, hL_sI, hL_sR, hL_cpI, hI_sL, hI_sR, hN_sI, hN_sL, hN_sR, hN_cpI, hU_sI, hU_sL, hU_sR, hU_cpI, tn0, tn1, tn2, tn3, tn4, tn5, tn6, tn7, tn8, tn9, tn10, tn11, tn12, tn13, tn14, tn15, tn16, tn17, tn18, tn19, tn20, tn21, tn22, tn23, tn24, tn25, tn26, tn27, tn28, tn29, tn30, tn31, tn32, tn33, tn34, tn35, tn36, tn37, tn38, tn39, tn40, tn41, tn42, tn43, tn44, tn45, tn46, tn47, tn48, tn49, tn50, tn51, tn52, tn53, tn54, tn55, tn56, tn57, tn58, tn59, tn60, lH_eq, true_and, and_true, mdq_0 H, mdq_1 H, mds_1 H, mdq_2 H, mds_2 H, vl7_0, vl7_1, vl7_2, vl7_3, vl7_4, vl7_5, vl7_6, hn, vp_in_nI (show i < 5 by omega) (show 5 < 2 ^ 31 by omega), nI_clamp (show i < 2 ^ 31 by omega), nI_le_iff (show nr < 2 ^ 31 by omega) (show i < 2 ^ 31 by omega), nI_eq_iff (show i < 2 ^ 31 by omega) (show r < 2 ^ 31 by omega), nI_1]
    simp only [leF] at ih
    refine ⟨fun z => absurd z (by omega), fun _ => ⟨fun z => ?_, fun z => ⟨fun y => ?_, fun y => ?_⟩⟩⟩
    · rwa [if_pos z] at ih
    · rwa [if_neg z, if_neg (Int32.not_lt.mpr y)] at ih
    · rwa [if_neg z, if_pos (i32_lt_of y)] at ih
theorem m_lead {d : Nat} {h : AH} {Q : Option Value → AH → Prop} (hd : 5 ≤ d) (m r nr : Nat) (H : ModAt h m) (hn : hI h (m + 1) 1 = nI nr) (hr : r < nr) (hr5 : nr ≤ 5) (k : Q (some (.int (leV (hI h (m + 2)) r nr))) h) : Calls d nX12_lead [.ref m, .int (nI r)] h (hN h) (hU h) Q := by
  obtain ⟨e, rfl⟩ : ∃ e, d = e + 1 := ⟨d - 1, by omega⟩
  exact wX12_lead (by omega) m (nI r) (le_loop (by omega) m r nr H hn hr hr5 rfl rfl k nr 0 (by omega))
theorem lo99 {x : Int32} (h : -100 < x) : (if -99 < x then x else -99) = x := by
  split
  · rfl
  · rename_i c
    rw [Int32.lt_iff_toInt_lt, show (-99 : Int32).toInt = -99 by decide] at c
    rw [Int32.lt_iff_toInt_lt, show (-100 : Int32).toInt = -100 by decide] at h
    refine Int32.toInt_inj.mp ?_
    rw [show (-99 : Int32).toInt = -99 by decide]
    omega
/-- both ways come to the same, if purses are above -100 -/
theorem leF_ld (pu : Nat → Int32) (r : Nat) : ∀ n, (∀ j, j < n → -100 < pu j) → (leF pu r n = if (n = 0 ∨ (n = 1 ∧ r = 0)) then -1000 else ldF pu r n) ∧ (¬ (n = 0 ∨ (n = 1 ∧ r = 0)) → -1000 < ldF pu r n)
  | 0, _ => by simp [leF]
  | n + 1, h => by
    have ih := leF_ld pu r n (fun j hj => h j (by omega))
    have hn1 := h n (by omega)
    have hn : -1000 < pu n := Int32.lt_trans (by decide) hn1
    by_cases c : n = r
    · subst c
      simp only [leF, ldF, if_true]
      grind
    · by_cases c0 : n = 0
      · subst c0
        have hc : ¬ (0 + 1 = 0 ∨ 0 + 1 = 1 ∧ r = 0) := by omega
        have e1 : leF pu r (0 + 1) = pu 0 := by
          simp only [leF, if_neg c]
          exact if_pos hn
        have e2 : ldF pu r (0 + 1) = pu 0 := by
          simp only [ldF, if_neg c]
          exact lo99 hn1
        rw [if_neg hc, e1, e2]
        exact ⟨rfl, fun _ => hn⟩
      · simp only [leF, ldF, if_neg c]
        by_cases c1 : n = 1 ∧ r = 0
        · obtain ⟨rfl, rfl⟩ := c1
          have h2 := lo99 hn1
          simp [leF, ldF, hn, h2]
        · have ih1 := ih.1
          have ih2 := ih.2 (by omega)
          rw [if_neg (by omega)] at ih1
          have hc : ¬ (n + 1 = 0 ∨ n + 1 = 1 ∧ r = 0) := by omega
          rw [ih1]
          simp only [hc, if_false, true_and, not_false_eq_true, forall_const]
          split
          · exact hn
          · exact ih2
theorem lead_eq (pu : Nat → Int32) (r n : Nat) (hr : r < n) (h : ∀ j, j < n → -100 < pu j) : leV pu r n = (if n < 2 then (0 : Int32) else pu r - ldF pu r n) := by
  unfold leV
  have := leF_ld pu r n h
  by_cases c : n < 2
  · have hc : (n = 0 ∨ n = 1 ∧ r = 0) := by omega
    rw [if_pos c, this.1]
    simp only [hc, if_true]
  · have hc : ¬ (n = 0 ∨ n = 1 ∧ r = 0) := by omega
    have h2 := this.2 hc
    have h3 := this.1
    rw [if_neg hc] at h3
    rw [if_neg c, h3, if_neg]
    intro z
    rw [z] at h2
    exact absurd h2 (by decide)
