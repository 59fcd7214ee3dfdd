/-! the reference's rules in their slots -/
def rcls (so nu sa ta ea : Nat → Int32) (r : Nat) : Nat → Nat → List (List (Nat × Nat) × List (Nat × Nat)) → Prop
  | _, _, [] => True
  | c, o, q :: rest => sa (12 * r + c) = nI o ∧ ta (12 * r + c) = nI (o + q.1.length) ∧ ea (12 * r + c) = nI (o + q.1.length + q.2.length) ∧ o + q.1.length + q.2.length ≤ 300 ∧ rseg so nu (300 * r + o) q.1 ∧ rseg so nu (300 * r + (o + q.1.length)) q.2 ∧ clR q ∧ rcls so nu sa ta ea r (c + 1) (o + q.1.length + q.2.length) rest
def MRul (h : AH) (m r : Nat) (cls : List (List (Nat × Nat) × List (Nat × Nat))) : Prop := r < 6 ∧ cls.length ≤ 12 ∧ hI h (m + 24) r = nI cls.length ∧ rcls (hI h (m + 22)) (hI h (m + 23)) (hI h (m + 25)) (hI h (m + 26)) (hI h (m + 27)) r 0 0 cls
theorem rseg_ok {so nu : Nat → Int32} {o : Nat} {ops : List (Nat × Nat)} (h : rseg so nu o ops) : ∀ q ∈ ops, opOk q := fun q hq => by
  obtain ⟨j, hj⟩ := List.mem_iff_getElem?.mp hq
  exact (h j q hj).1
theorem wa_loop {d E1 E2 : Nat} {Q : Option Value → AH → Prop} (hd : 7 ≤ d) (m r nc : Nat) (wd : Nat → Int64) (hr : r < 6) (hnc : nc ≤ 12) (so nu sa ta ea : Nat → Int32) : ∀ (cls : List (List (Nat × Nat) × List (Nat × Nat))) (c o : Nat) (h : AH), c + cls.length = nc → rcls so nu sa ta ea r c o cls → ModAt h m → hI h (m + 24) r = nI nc → (∀ j, hI h (m + 22) j = so j) → (∀ j, hI h (m + 23) j = nu j) → (∀ j, hI h (m + 25) j = sa j) → (∀ j, hI h (m + 26) j = ta j) → (∀ j, hI h (m + 27) j = ea j) → (∀ j, j < 12 → hL h (m + 29) j = wd j) → hN h = E1 → hU h = E2 → (∀ h', Fr' h h' (fun b => b = m + 30) → Q (some (.long (sumF wd cls))) h') → Reach d nX12_wanted (13, [.ref m, .int (nI r), .int (nI (12 * r + c))], []) h E1 E2 Q
  | [], c, o, h, hi, hcl, H, hc, hso, hnu, hsa, hta, hea, hwd, e1, e2, k => by
    simp only [List.length_nil, Nat.add_zero] at hi
    refine wX12_wanted_13 (by omega) m (nI r) _ ?_
    have i1 : 12 * nI r + nI nc = nI (12 * r + nc) := by rw [← nI_add, ← pk_mul]; rfl
    simp only [rt_i, rt_b0, rt_b1, rt_v, rt_l, rt_o, rt_a, rV_none, rI_some, rL_some, rR_some, rT_some, rt_bI, hIf_sL, hIf_sR, hS_sI, hS_sL, hS_sR, hS_cpI, hR_sI, hR_sL, hR_cpI, hL_sI, hL_sR, hL_cpI, hI_sL, hI_sR, hN_sI, hN_sL, hN_sR, hN_cpI, hU_sI, hU_sL, hU_sR, hU_cpI, tn0, tn1, tn2, tn3, tn4, tn5, tn6, tn7, tn8, tn9, tn10, tn11, tn12, tn13, tn14, tn15, tn16, tn17, tn18, tn19, tn20, tn21, tn22, tn23, tn24, tn25, tn26, tn27, tn28, tn29, tn30, tn31, tn32, tn33, tn34, tn35, tn36, tn37, tn38, tn39, tn40, tn41, tn42, tn43, tn44, tn45, tn46, tn47, tn48, tn49, tn50, tn51, tn52, tn53, tn54, tn55, tn56, tn57, tn58, tn59, tn60, lH_eq, true_and, and_true, mdq_0 H, mdq_34 H, mds_34 H, vp_in_nI (show r < 6 by omega) (show 6 < 2 ^ 31 by omega), nI_clamp (show r < 2 ^ 31 by omega), hc, i1, nI_le_iff (show 12 * r + nc < 2 ^ 31 by omega) (show 12 * r + c < 2 ^ 31 by omega)]
    exact ⟨fun _ => ⟨e1, e2, k h (Fr'.refl _ _)⟩, fun z => absurd (by omega) z⟩
  | q :: rest, c, o, h, hi, hcl, H, hc, hso, hnu, hsa, hta, hea, hwd, e1, e2, k => by
    simp only [List.length_cons] at hi
    obtain ⟨b0, b1, b2, hle, g1, g2, ⟨t1, t2, t3⟩, hrest⟩ := hcl
    have g1' : rseg (hI h (m + 22)) (hI h (m + 23)) (300 * r + o) q.1 := fun j q hj => by rw [hso, hnu]; exact g1 j q hj
    have g2' : rseg (hI h (m + 22)) (hI h (m + 23)) (300 * r + (o + q.1.length)) q.2 := fun j q hj => by rw [hso, hnu]; exact g2 j q hj
    refine wX12_wanted_13 (by omega) m (nI r) _ ?_
    have i1 : 12 * nI r + nI nc = nI (12 * r + nc) := by rw [← nI_add, ← pk_mul]; rfl
    simp only [rt_i, rt_b0, rt_b1, rt_v, rt_l, rt_o, rt_a, rV_none, rI_some, rL_some, rR_some, rT_some, rt_bI, hIf_sL, hIf_sR, hS_sI, hS_sL, hS_sR, hS_cpI, hR_sI, hR_sL, hR_cpI, hL_sI, hL_sR, hL_cpI, hI_sL, hI_sR, hN_sI, hN_sL, hN_sR, hN_cpI, hU_sI, hU_sL, hU_sR, hU_cpI, tn0, tn1, tn2, tn3, tn4, tn5, tn6, tn7, tn8, tn9, tn10, tn11, tn12, tn13, tn14, tn15, tn16, tn17, tn18, tn19, tn20, tn21, tn22, tn23, tn24, tn25, tn26, tn27, tn28, tn29, tn30, tn31, tn32, tn33, tn34, tn35, tn36, tn37, tn38, tn39, tn40, tn41, tn42, tn43, tn44, tn45, tn46, tn47, tn48, tn49, tn50, tn51, tn52, tn53, tn54, tn55, tn56, tn57, tn58, tn59, tn60, lH_eq, true_and, and_true, mdq_0 H, mdq_34 H, mds_34 H, mdq_35 H, mds_35 H, mdq_36 H, mds_36 H, mdq_37 H, mds_37 H, vp_in_nI (show r < 6 by omega) (show 6 < 2 ^ 31 by omega), nI_clamp (show r < 2 ^ 31 by omega), vp_in_nI (show 12 * r + c < 72 by omega) (show 72 < 2 ^ 31 by omega), nI_clamp (show 12 * r + c < 2 ^ 31 by omega), hc, i1, hsa, hta, hea, b0, b1, b2, nI_le_iff (show 12 * r + nc < 2 ^ 31 by omega) (show 12 * r + c < 2 ^ 31 by omega), nI_eq_iff (show o + q.1.length < 2 ^ 31 by omega) (show o + q.1.length + q.2.length < 2 ^ 31 by omega)]
    refine ⟨fun z => absurd z (by omega), fun _ => ⟨fun z => ?_, fun z => ?_⟩⟩
    · have hq2 : q.2 = [] := List.eq_nil_of_length_eq_zero (by omega)
      refine m_answer hd m r o q.1 wd false H hr (by omega) g1' hwd t2 t1 (fun h' f => ?_)
      simp only [rL_some, rt_l]
      have := k h' f
      rw [sumF, if_pos (Or.inl hq2)] at this
      exact ⟨f.2.2.1.trans e1, f.2.2.2.1.trans e2, this⟩
    · have hq2 : ¬ q.2 = [] := fun y => z (by rw [y]; rfl)
      obtain ⟨t3, t4⟩ := t3.resolve_left hq2
      refine m_answer hd m r (o + q.1.length) q.2 wd true H hr (by omega) g2' hwd t4 t3 (fun h' f => ?_)
      have h01 := test01 (wd := wd) (rseg_ok g2) t3
      have gI := fun x (hx : ¬ x = m + 30) => f.2.2.2.2.1 x hx
      simp only [rL_some, lg0, f.1, f.2.1, rt_i, rt_b0, rt_b1, rt_v, rt_l, rt_o, rt_a, rV_none, rI_some, rL_some, rR_some, rT_some, rt_bI, hIf_sL, hIf_sR, hS_sI, hS_sL, hS_sR, hS_cpI, hR_sI, hR_sL, hR_cpI, hL_sI, hL_sR, hL_cpI, hI_sL, hI_sR, hN_sI, hN_sL, hN_sR, hN_cpI, hU_sI, hU_sL, hU_sR, hU_cpI, tn0, tn1, tn2, tn3, tn4, tn5, tn6, tn7, tn8, tn9, tn10, tn11, tn12, tn13, tn14, tn15, tn16, tn17, tn18, tn19, tn20, tn21, tn22, tn23, tn24, tn25, tn26, tn27, tn28, tn29, tn30, tn31, tn32, tn33, tn34, tn35, tn36, tn37, tn38, tn39, tn40, tn41, tn42, tn43, tn44, tn45, tn46, tn47, tn48, tn49, tn50, tn51, tn52, tn53, tn54, tn55, tn56, tn57, tn58, tn59, tn60, lH_eq, true_and, and_true, mdq_0 H, mdq_35 H, mds_35 H, mdq_36 H, mds_36 H, vp_in_nI (show 12 * r + c < 72 by omega) (show 72 < 2 ^ 31 by omega), nI_clamp (show 12 * r + c < 2 ^ 31 by omega), gI (m + 25) (by omega), gI (m + 26) (by omega), hsa, hta, b0, b1]
      refine ⟨fun y => ?_, fun y => ?_⟩
      · rw [nI_1]
        refine wa_loop hd m r nc wd hr hnc so nu sa ta ea rest (c + 1) _ h' (by omega) hrest (H.fr f) (by rw [gI (m + 24) (by omega)]; exact hc) (fun j => by rw [gI (m + 22) (by omega)]; exact hso j) (fun j => by rw [gI (m + 23) (by omega)]; exact hnu j) (fun j => by rw [gI (m + 25) (by omega)]; exact hsa j) (fun j => by rw [gI (m + 26) (by omega)]; exact hta j) (fun j => by rw [gI (m + 27) (by omega)]; exact hea j) (fun j hj => by rw [f.2.2.2.2.2 (m + 29) (by omega)]; exact hwd j hj) (f.2.2.1.trans e1) (f.2.2.2.1.trans e2) (fun h2 f2 => ?_)
        have := k h2 (f.trans f2)
        rw [sumF, if_neg (fun w => w.elim hq2 (fun w => y (h01 ▸ w)))] at this
        exact this
      · refine m_answer hd m r o q.1 wd false (H.fr f) hr (by omega) (fun j q hj => by rw [gI (m + 22) (by omega), gI (m + 23) (by omega)]; exact g1' j q hj) (fun j hj => by rw [f.2.2.2.2.2 (m + 29) (by omega)]; exact hwd j hj) t2 t1 (fun h2 f2 => ?_)
        simp only [rL_some, rt_l]
        have := k h2 (f.trans f2)
        rw [sumF, if_pos (Or.inr (h01 ▸ y))] at this
        exact ⟨f2.2.2.1.trans (f.2.2.1.trans e1), f2.2.2.2.1.trans (f.2.2.2.1.trans e2), this⟩
theorem m_wanted {d : Nat} {h : AH} {Q : Option Value → AH → Prop} (hd : 8 ≤ d) (m r : Nat) (cls : List (List (Nat × Nat) × List (Nat × Nat))) (wd : Nat → Int64) (H : ModAt h m) (HR : MRul h m r cls) (hf : hI h (m + 1) 6 = nI r) (hwd : ∀ j, j < 12 → hL h (m + 29) j = wd j) (k : ∀ h', Fr' h h' (fun b => b = m + 30) → Q (some (.long (sumF wd cls))) h') : Calls d nX12_wanted [.ref m] h (hN h) (hU h) Q := by
  obtain ⟨e, rfl⟩ : ∃ e, d = e + 1 := ⟨d - 1, by omega⟩
  obtain ⟨hr, hl, hc, hcl⟩ := HR
  refine wX12_wanted (by omega) m ?_
  have i1 : 12 * nI r = nI (12 * r + 0) := pk_mul 12 r
  simp only [rt_i, rt_b0, rt_b1, rt_v, rt_l, rt_o, rt_a, rV_none, rI_some, rL_some, rR_some, rT_some, rt_bI, hIf_sL, hIf_sR, hS_sI, hS_sL, hS_sR, hS_cpI, hR_sI, hR_sL, hR_cpI, hL_sI, hL_sR, hL_cpI, hI_sL, hI_sR, hN_sI, hN_sL, hN_sR, hN_cpI, hU_sI, hU_sL, hU_sR, hU_cpI, tn0, tn1, tn2, tn3, tn4, tn5, tn6, tn7, tn8, tn9, tn10, tn11, tn12, tn13, tn14, tn15, tn16, tn17, tn18, tn19, tn20, tn21, tn22, tn23, tn24, tn25, tn26, tn27, tn28, tn29, tn30, tn31, tn32, tn33, tn34, tn35, tn36, tn37, tn38, tn39, tn40, tn41, tn42, tn43, tn44, tn45, tn46, tn47, tn48, tn49, tn50, tn51, tn52, tn53, tn54, tn55, tn56, tn57, tn58, tn59, tn60, lH_eq, true_and, and_true, mdq_0 H, mdq_1 H, mds_1 H, vl7_0, vl7_1, vl7_2, vl7_3, vl7_4, vl7_5, vl7_6, hf, i1]
  exact wa_loop (by omega) m r cls.length wd hr hl _ _ _ _ _ cls 0 0 h (by omega) hcl H hc (fun _ => rfl) (fun _ => rfl) (fun _ => rfl) (fun _ => rfl) (fun _ => rfl) hwd rfl rfl k
