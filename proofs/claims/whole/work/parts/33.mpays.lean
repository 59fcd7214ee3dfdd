/-! small numbers -/
theorem t_add {a b : Int32} (h1 : -2147483648 ≤ a.toInt + b.toInt) (h2 : a.toInt + b.toInt < 2147483648) : (a + b).toInt = a.toInt + b.toInt := by
  rw [Int32.toInt_add]
  exact Int.bmod_eq_of_le (by omega) (by omega)
theorem t_sub {a b : Int32} (h1 : -2147483648 ≤ a.toInt - b.toInt) (h2 : a.toInt - b.toInt < 2147483648) : (a - b).toInt = a.toInt - b.toInt := by
  rw [Int32.toInt_sub]
  exact Int.bmod_eq_of_le (by omega) (by omega)
theorem t_0 : (0 : Int32).toInt = 0 := by decide
theorem t_1 : (1 : Int32).toInt = 1 := by decide
theorem t_m1 : (-1 : Int32).toInt = -1 := by decide
theorem t_99 : (99 : Int32).toInt = 99 := by decide
theorem t_m99 : (-99 : Int32).toInt = -99 := by decide
theorem t_9999 : (9999 : Int32).toInt = 9999 := by decide
theorem lend1 {x : Int32} (h : -99 ≤ x.toInt) : (-99 ≤ x - 1) = ¬ (x ≤ -99) := by
  have h2 := x.toInt_lt
  rw [Int32.le_iff_toInt_le, Int32.le_iff_toInt_le, t_sub (by rw [t_1]; omega) (by rw [t_1]; omega), t_1, t_m99]
  apply propext
  omega
theorem lend2 {x : Int32} (h : x.toInt ≤ 99) : (x + 1 ≤ 99) = ¬ (99 ≤ x) := by
  have h2 := x.le_toInt
  rw [Int32.le_iff_toInt_le, Int32.le_iff_toInt_le, t_add (by rw [t_1]; omega) (by rw [t_1]; omega), t_1, t_99]
  apply propext
  omega
def puOk (pu : Nat → Int32) (n : Nat) : Prop := ∀ j, j < n → -99 ≤ (pu j).toInt ∧ (pu j).toInt ≤ 99
theorem gvF_ok {pu : Nat → Int32} {n f s : Nat} (h : puOk pu n) (hf : f < n) (hs : s < n) (hfs : s ≠ f) (h1 : -99 ≤ pu f - 1) (h2 : pu s + 1 ≤ 99) : puOk (gvF pu f s 1) n := fun j hj => by
  have hj' := h j hj
  have a := h f hf
  have b := h s hs
  have h3 := t_sub (a := pu f) (b := 1) (by rw [t_1]; omega) (by rw [t_1]; omega)
  have h4 := t_add (a := pu s) (b := 1) (by rw [t_1]; omega) (by rw [t_1]; omega)
  rw [Int32.le_iff_toInt_le, h3, t_1, t_m99] at h1
  rw [Int32.le_iff_toInt_le, h4, t_1, t_99] at h2
  rw [t_1] at h3 h4
  unfold gvF
  split
  · rw [h4]; omega
  · split
    · rw [h3]; omega
    · exact hj'
theorem pyF_ok {ai pu : Nat → Int32} {f w nr : Nat} (h : puOk pu nr) (hf : f < nr) : ∀ n, n ≤ nr → puOk (pyF ai f w pu n) nr
  | 0, _ => h
  | n + 1, hn => by
    have ih := pyF_ok (ai := ai) (w := w) h hf n (by omega)
    unfold pyF
    split
    · rename_i z
      exact gvF_ok ih hf (by omega) z.1 z.2.2.1 z.2.2.2
    · exact ih
theorem mp_loop {d E1 E2 : Nat} {Q : Option Value → AH → Prop} (hd : 4 ≤ d) (m w f nr : Nat) (ai pu : Nat → Int32) (hf : f < nr) (hr5 : nr ≤ 5) (hw : w < 6) (hok : puOk pu nr) : ∀ (n i : Nat) (h : AH), i + n = nr → ModAt h m → hI h (m + 1) 1 = nI nr → (∀ j, hI h (m + 31) j = ai j) → (∀ j, hI h (m + 2) j = pyF ai f w pu i j) → hN h = E1 → hU h = E2 → (∀ h', Fr' h h' (fun b => b = m + 2) → (∀ j, hI h' (m + 2) j = pyF ai f w pu nr j) → Q none h') → Reach d nX12_pays (9, [.ref m, .int (nI w), .int (nI f), .int (nI i)], []) h E1 E2 Q
  | 0, i, h, hi, H, hn, hai, hpu, e1, e2, k => by
    have : i = nr := by omega
    subst this
    refine wX12_pays_9 hd m (nI w) _ (nI i) ?_
    simp only [rt_i, rt_b0, rt_b1, rt_v, rt_l, rt_o, rt_a, rV_none, rI_some, rL_some, rR_some, rT_some, rt_bI, hIf_sL, hIf_sR, hS_sI, hS_sL, hS_sR, hS_cpI, hR_sI, hR_sL, hR_cpI, hL_sI, hL_sR, hL_cpI, hI_sL, hI_sR, hN_sI, hN_sL, hN_sR, hN_cpI, hU_sI, hU_sL, hU_sR, hU_cpI, tn0, tn1, tn2, tn3, tn4, tn5, tn6, tn7, tn8, tn9, tn10, tn11, tn12, tn13, tn14, tn15, tn16, tn17, tn18, tn19, tn20, tn21, tn22, tn23, tn24, tn25, tn26, tn27, tn28, tn29, tn30, tn31, tn32, tn33, tn34, tn35, tn36, tn37, tn38, tn39, tn40, tn41, tn42, tn43, tn44, tn45, tn46, tn47, tn48, tn49, tn50, tn51, tn52, tn53, tn54, tn55, tn56, tn57, tn58, tn59, tn60, lH_eq, true_and, and_true, mdq_0 H, mdq_1 H, mds_1 H, vl7_0, vl7_1, vl7_2, vl7_3, vl7_4, vl7_5, vl7_6, hn, nI_le_iff (show i < 2 ^ 31 by omega) (show i < 2 ^ 31 by omega)]
    exact ⟨fun _ => ⟨e1, e2, k h (Fr'.refl _ _) hpu⟩, fun z => absurd (Nat.le_refl i) z⟩
  | n + 1, i, h, hi, H, hn, hai, hpu, e1, e2, k => by
    have ok := pyF_ok (ai := ai) (w := w) hok hf i (by omega)
    refine wX12_pays_9 hd m (nI w) _ (nI i) ?_
    have hs : pyF ai f w pu (i + 1) = if ¬ i = f ∧ ai i = nI w ∧ -99 ≤ pyF ai f w pu i f - 1 ∧ pyF ai f w pu i i + 1 ≤ 99 then gvF (pyF ai f w pu i) f i 1 else pyF ai f w pu i := rfl
    simp only [lend1 (ok f hf).1, lend2 (ok i (by omega)).2] at hs
    simp only [rt_i, rt_b0, rt_b1, rt_v, rt_l, rt_o, rt_a, rV_none, rI_some, rL_some, rR_some, rT_some, rt_bI, hIf_sL, hIf_sR, hS_sI, hS_sL, hS_sR, hS_cpI, hR_sI, hR_sL, hR_cpI, hL_sI, hL_sR, hL_cpI, hI_sL, hI_sR, hN_sI, hN_sL, hN_sR, hN_cpI, hU_sI, hU_sL, hU_sR, hU_cpI, tn0, tn1, tn2, tn3, tn4, tn5, tn6, tn7, tn8, tn9, tn10, tn11, tn12, tn13, tn14, tn15, tn16, tn17, tn18, tn19, tn20, tn21, tn22, tn23, tn24, tn25, tn26, tn27, tn28, tn29, tn30, tn31, tn32, tn33, tn34, tn35, tn36, tn37, tn38, tn39, tn40, tn41, tn42, tn43, tn44, tn45, tn46, tn47, tn48, tn49, tn50, tn51, tn52, tn53, tn54, tn55, tn56, tn57, tn58, tn59, tn60, lH_eq, true_and, and_true, mdq_0 H, mdq_1 H, mds_1 H, mdq_2 H, mds_2 H, mdq_41 H, mds_41 H, vl7_0, vl7_1, vl7_2, vl7_3, vl7_4, vl7_5, vl7_6, hn, vp_in_nI (show i < 5 by omega) (show 5 < 2 ^ 31 by omega), nI_clamp (show i < 2 ^ 31 by omega), vp_in_nI (show f < 5 by omega) (show 5 < 2 ^ 31 by omega), nI_clamp (show f < 2 ^ 31 by omega), nI_le_iff (show nr < 2 ^ 31 by omega) (show i < 2 ^ 31 by omega), nI_eq_iff (show i < 2 ^ 31 by omega) (show f < 2 ^ 31 by omega), nI_1, hai, hpu, hI_sI]
    refine ⟨fun z => absurd z (by omega), fun _ => ⟨fun z => absurd z (nI_ne_m1 (by omega)), fun _ => ?_⟩⟩
    have go := fun (hc : ¬ (¬ i = f ∧ ai i = nI w ∧ ¬ pyF ai f w pu i f ≤ -99 ∧ ¬ 99 ≤ pyF ai f w pu i i)) => mp_loop hd m w f nr ai pu hf hr5 hw hok n (i + 1) h (by omega) H hn hai (fun j => by rw [hs, if_neg hc]; exact hpu j) e1 e2 k
    refine ⟨fun z => go (fun y => y.1 z), fun z => ⟨fun z2 => go (fun y => z2 y.2.1), fun z2 => ⟨fun z3 => go (fun y => y.2.2.1 z3), fun z3 => ⟨fun z4 => go (fun y => y.2.2.2 z4), fun z4 => ?_⟩⟩⟩⟩
    refine mp_loop hd m w f nr ai pu hf hr5 hw hok n (i + 1) _ (by omega) H (by simp only [hI_sI]; rw [if_neg (by omega), if_neg (by omega)]; exact hn) (fun j => by simp only [hI_sI]; rw [if_neg (by omega), if_neg (by omega)]; exact hai j) (fun j => ?_) e1 e2 (fun h' fr q => k h' (((Fr'.sI (S := fun b => b = m + 2) rfl).trans (Fr'.sI rfl)).trans fr) q)
    have hs2 := hs
    rw [if_pos ⟨z, z2, z3, z4⟩] at hs2
    rw [hs2]
    simp only [hI_sI, gvF, if_true, if_neg z, hpu]
theorem m_pays {d : Nat} {h : AH} {Q : Option Value → AH → Prop} (hd : 5 ≤ d) (m w nr : Nat) (o : Option Nat) (H : ModAt h m) (hn : hI h (m + 1) 1 = nI nr) (hr5 : nr ≤ 5) (hw : w < 6) (ho : hI h (m + 6) w = oI o) (ho2 : ∀ f, o = some f → f < nr) (hok : puOk (hI h (m + 2)) nr) (k : ∀ h', Fr' h h' (fun b => b = m + 2) → (∀ j, hI h' (m + 2) j = (match o with
    | none => hI h (m + 2)
    | some f => pyF (hI h (m + 31)) f w (hI h (m + 2)) nr) j) → Q none h') : Calls d nX12_pays [.ref m, .int (nI w)] h (hN h) (hU h) Q := by
  obtain ⟨e, rfl⟩ : ∃ e, d = e + 1 := ⟨d - 1, by omega⟩
  refine wX12_pays (by omega) m (nI w) ?_
  simp only [rt_i, rt_b0, rt_b1, rt_v, rt_l, rt_o, rt_a, rV_none, rI_some, rL_some, rR_some, rT_some, rt_bI, hIf_sL, hIf_sR, hS_sI, hS_sL, hS_sR, hS_cpI, hR_sI, hR_sL, hR_cpI, hL_sI, hL_sR, hL_cpI, hI_sL, hI_sR, hN_sI, hN_sL, hN_sR, hN_cpI, hU_sI, hU_sL, hU_sR, hU_cpI, tn0, tn1, tn2, tn3, tn4, tn5, tn6, tn7, tn8, tn9, tn10, tn11, tn12, tn13, tn14, tn15, tn16, tn17, tn18, tn19, tn20, tn21, tn22, tn23, tn24, tn25, tn26, tn27, tn28, tn29, tn30, tn31, tn32, tn33, tn34, tn35, tn36, tn37, tn38, tn39, tn40, tn41, tn42, tn43, tn44, tn45, tn46, tn47, tn48, tn49, tn50, tn51, tn52, tn53, tn54, tn55, tn56, tn57, tn58, tn59, tn60, lH_eq, true_and, and_true, mdq_0 H, mdq_6 H, mds_6 H, vp_in_nI (show w < 6 by omega) (show 6 < 2 ^ 31 by omega), nI_clamp (show w < 2 ^ 31 by omega), ho]
  cases o with
  | none =>
    refine wX12_pays_9 (by omega) m (nI w) _ 0 ?_
    simp only [rt_i, rt_b0, rt_b1, rt_v, rt_l, rt_o, rt_a, rV_none, rI_some, rL_some, rR_some, rT_some, rt_bI, hIf_sL, hIf_sR, hS_sI, hS_sL, hS_sR, hS_cpI, hR_sI, hR_sL, hR_cpI, hL_sI, hL_sR, hL_cpI, hI_sL, hI_sR, hN_sI, hN_sL, hN_sR, hN_cpI, hU_sI, hU_sL, hU_sR, hU_cpI, tn0, tn1, tn2, tn3, tn4, tn5, tn6, tn7, tn8, tn9, tn10, tn11, tn12, tn13, tn14, tn15, tn16, tn17, tn18, tn19, tn20, tn21, tn22, tn23, tn24, tn25, tn26, tn27, tn28, tn29, tn30, tn31, tn32, tn33, tn34, tn35, tn36, tn37, tn38, tn39, tn40, tn41, tn42, tn43, tn44, tn45, tn46, tn47, tn48, tn49, tn50, tn51, tn52, tn53, tn54, tn55, tn56, tn57, tn58, tn59, tn60, lH_eq, true_and, and_true, mdq_0 H, mdq_1 H, mds_1 H, vl7_0, vl7_1, vl7_2, vl7_3, vl7_4, vl7_5, vl7_6]
    exact ⟨fun _ => k h (Fr'.refl _ _) (fun _ => rfl), fun _ => ⟨fun _ => k h (Fr'.refl _ _) (fun _ => rfl), fun z => absurd rfl z⟩⟩
  | some f => exact mp_loop (by omega) m w f nr _ _ (ho2 f rfl) hr5 hw hok nr 0 h (by omega) H hn (fun _ => rfl) (fun _ => rfl) rfl rfl k
