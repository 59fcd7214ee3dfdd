/-! pence, reference -/
theorem nn_of {x : Int32} {b : Nat} (h0 : 0 ≤ x.toInt) (h1 : x.toInt ≤ b) (hb : b < 2 ^ 31) : ∃ n, n ≤ b ∧ x = nI n := by
  obtain ⟨j, hj, rfl⟩ := nI_of (x := x) (fun z => by rw [Int32.lt_iff_toInt_lt] at z; have : (0 : Int32).toInt = 0 := by decide
                                                     omega)
  refine ⟨j, ?_, rfl⟩
  rw [nI_toInt hj] at h1
  omega
theorem suF_nn {f : Nat → Int32} : ∀ n : Nat, (∀ j, j < n → ∃ a, a ≤ 9999 ∧ f j = nI a) → ∃ s, s ≤ 9999 * n ∧ suF f n = nI s
  | 0, _ => ⟨0, Nat.le_refl _, rfl⟩
  | n + 1, h => by
    obtain ⟨s, hs, e⟩ := suF_nn n (fun j hj => h j (by omega))
    obtain ⟨a, ha, e2⟩ := h n (by omega)
    exact ⟨s + a, by omega, by simp only [suF, e, e2, nI_add]⟩
theorem nI_dif {a b : Nat} (ha : a < 2 ^ 30) (hb : b < 2 ^ 30) : ((0 : Int32) < nI a - nI b) = (b < a) := by
  apply propext
  have := pk_sub_toInt (a := a) (b := b) (by omega) (by omega)
  rw [Int32.lt_iff_toInt_lt, this]
  have : (0 : Int32).toInt = 0 := by decide
  omega
theorem nI_dif0 {a b : Nat} (ha : a < 2 ^ 30) (hb : b < 2 ^ 30) : (nI a - nI b = (0 : Int32)) = (a = b) := by
  apply propext
  have h1 := pk_sub_toInt (a := a) (b := b) (by omega) (by omega)
  have h0 : (0 : Int32).toInt = 0 := by decide
  constructor
  · intro z
    rw [z] at h1
    omega
  · intro z
    apply Int32.toInt_inj.mp
    omega
theorem pe_loop {d E1 E2 : Nat} {Q : Option Value → AH → Prop} {h : AH} (hd : 4 ≤ d) (m nr r : Nat) (f : Nat → Int32) (mu all : Int32) (H : ModAt h m) (hn : hI h (m + 1) 1 = nI nr) (hr5 : nr ≤ 5) (hr : r < nr) (ha : all ≠ 0) (hf : ∀ j, j < nr → hI h (m + 3) j = f j) (hp : ∀ j, j < nr → ∃ a, a < 2 ^ 30 ∧ irm (mu * f j) all = nI a) (e1 : hN h = E1) (e2 : hU h = E2) (k : Q (some (.int (mu * f r / all + (if nI (shF f mu all r nr).2 < (shF f mu all r nr).1 then 1 else 0)))) h) : ∀ n i : Nat, i + n = nr → Reach d nX12_pence (42, [.ref m, .int mu, .int (nI r), .int all, .int (shF f mu all r i).1, .int (nI (shF f mu all r i).2), .int (nI i), .float 0], []) h E1 E2 Q
  | 0, i, hi => by
    have : i = nr := by omega
    subst this
    refine wX12_pence_42 hd m mu (nI r) all _ _ (nI i) ?_
    simp only [rt_i, rt_b0, rt_b1, rt_v, rt_l, rt_o, rt_a, rV_none, rI_some, rL_some, rR_some, rT_some, rt_bI, hIf_sL, hIf_sR, hS_sI, hS_sL, hS_sR, hS_cpI, hR_sI, hR_sL, hR_cpI, hL_sI, hL_sR, hL_cpI, hI_sL, hI_sR, hN_sI, hN_sL, hN_sR, hN_cpI, hU_sI, hU_sL, hU_sR, hU_cpI, tn0, tn1, tn2, tn3, tn4, tn5, tn6, tn7, tn8, tn9, tn10, tn11, tn12, tn13, tn14, tn15, tn16, tn17, tn18, tn19, tn20, tn21, tn22, tn23, tn24, tn25, tn26, tn27, tn28, tn29, tn30, tn31, tn32, tn33, tn34, tn35, tn36, tn37, tn38, tn39, tn40, tn41, tn42, tn43, tn44, tn45, tn46, tn47, tn48, tn49, tn50, tn51, tn52, tn53, tn54, tn55, tn56, tn57, tn58, tn59, tn60, lH_eq, true_and, and_true, mdq_0 H, mdq_1 H, mds_1 H, mdq_3 H, mds_3 H, vl7_0, vl7_1, vl7_2, vl7_3, vl7_4, vl7_5, vl7_6, hn, nI_le_iff (show i < 2 ^ 31 by omega) (show i < 2 ^ 31 by omega), vp_in_nI (show r < 5 by omega) (show 5 < 2 ^ 31 by omega), nI_clamp (show r < 2 ^ 31 by omega), hf r hr]
    refine ⟨fun _ => ⟨ha, fun z => ?_, fun z => ?_⟩, fun z => absurd (Nat.le_refl i) z⟩
    · rw [if_neg (Int32.not_lt.mpr z)] at k; exact ⟨e1, e2, k⟩
    · rw [if_pos (i32_lt_of z)] at k; exact ⟨e1, e2, k⟩
  | n + 1, i, hi => by
    have ih := pe_loop hd m nr r f mu all H hn hr5 hr ha hf hp e1 e2 k n (i + 1) (by omega)
    obtain ⟨a, ha1, ea⟩ := hp i (by omega)
    obtain ⟨b, hb1, eb⟩ := hp r hr
    refine wX12_pence_42 hd m mu (nI r) all _ _ (nI i) ?_
    simp only [rt_i, rt_b0, rt_b1, rt_v, rt_l, rt_o, rt_a, rV_none, rI_some, rL_some, rR_some, rT_some, rt_bI, hIf_sL, hIf_sR, hS_sI, hS_sL, hS_sR, hS_cpI, hR_sI, hR_sL, hR_cpI, hL_sI, hL_sR, hL_cpI, hI_sL, hI_sR, hN_sI, hN_sL, hN_sR, hN_cpI, hU_sI, hU_sL, hU_sR, hU_cpI, tn0, tn1, tn2, tn3, tn4, tn5, tn6, tn7, tn8, tn9, tn10, tn11, tn12, tn13, tn14, tn15, tn16, tn17, tn18, tn19, tn20, tn21, tn22, tn23, tn24, tn25, tn26, tn27, tn28, tn29, tn30, tn31, tn32, tn33, tn34, tn35, tn36, tn37, tn38, tn39, tn40, tn41, tn42, tn43, tn44, tn45, tn46, tn47, tn48, tn49, tn50, tn51, tn52, tn53, tn54, tn55, tn56, tn57, tn58, tn59, tn60, lH_eq, true_and, and_true, mdq_0 H, mdq_1 H, mds_1 H, mdq_3 H, mds_3 H, vl7_0, vl7_1, vl7_2, vl7_3, vl7_4, vl7_5, vl7_6, hn, nI_le_iff (show nr < 2 ^ 31 by omega) (show i < 2 ^ 31 by omega), nI_le_iff (show r < 2 ^ 31 by omega) (show i < 2 ^ 31 by omega), vp_in_nI (show i < 5 by omega) (show 5 < 2 ^ 31 by omega), nI_clamp (show i < 2 ^ 31 by omega), vp_in_nI (show r < 5 by omega) (show 5 < 2 ^ 31 by omega), nI_clamp (show r < 2 ^ 31 by omega), hf i (by omega), hf r hr, irm_eq, ea, eb, nI_dif ha1 hb1, nI_dif0 ha1 hb1, nI_1, Int32.add_zero]
    simp only [shF, ea, eb, nI_lt_iff (show b < 2 ^ 31 by omega) (show a < 2 ^ 31 by omega)] at ih
    have e3 : (nI a = nI b) = (a = b) := nI_eq_iff (by omega) (by omega)
    simp only [e3] at ih
    refine ⟨fun z => absurd z (by omega), fun _ => ⟨ha, ha, ha, fun z => ?_, fun z => ⟨fun y => ?_, fun y => ⟨fun x => ?_, fun x => ?_⟩⟩⟩⟩
    · rwa [if_pos (Or.inl z)] at ih
    · rwa [if_neg (fun x => x.elim z (fun x => y x.1))] at ih
    · rwa [if_neg (fun w => w.elim z (fun w => absurd w.2 (by omega)))] at ih
    · rwa [if_pos (Or.inr ⟨y, by omega⟩)] at ih
noncomputable def aPence (nr : Nat) (M : PC) (mu q : Int32) : Int32 := if (0 ≤ q ∧ q < nI nr) ∧ (0 ≤ mu ∧ mu ≤ 9999) then shV (M 3) mu q.toNatClampNeg nr else -1
theorem m_pence {d : Nat} {h : AH} {Q : Option Value → AH → Prop} (hd : 7 ≤ d) (m nr nw : Nat) (A M : PC) (R : Option (List (List (Nat × Nat) × List (Nat × Nat)))) (mu q : Int32) (H : QK h m nr nw A M R) (kk : Q (some (.int (aPence nr M mu q))) h) : Calls d nX12_pence [.ref m, .int mu, .int q] h (hN h) (hU h) Q := by
  obtain ⟨e, rfl⟩ : ∃ e, d = e + 1 := ⟨d - 1, by omega⟩
  have HQ := H
  obtain ⟨HC, H5, hr5, hw6, hh⟩ := H
  unfold aPence at kk
  refine wX12_pence (by omega) m mu q ?_
  simp only [rt_i, rt_b0, rt_b1, rt_v, rt_l, rt_o, rt_a, rV_none, rI_some, rL_some, rR_some, rT_some, rt_bI, hIf_sL, hIf_sR, hS_sI, hS_sL, hS_sR, hS_cpI, hR_sI, hR_sL, hR_cpI, hL_sI, hL_sR, hL_cpI, hI_sL, hI_sR, hN_sI, hN_sL, hN_sR, hN_cpI, hU_sI, hU_sL, hU_sR, hU_cpI, tn0, tn1, tn2, tn3, tn4, tn5, tn6, tn7, tn8, tn9, tn10, tn11, tn12, tn13, tn14, tn15, tn16, tn17, tn18, tn19, tn20, tn21, tn22, tn23, tn24, tn25, tn26, tn27, tn28, tn29, tn30, tn31, tn32, tn33, tn34, tn35, tn36, tn37, tn38, tn39, tn40, tn41, tn42, tn43, tn44, tn45, tn46, tn47, tn48, tn49, tn50, tn51, tn52, tn53, tn54, tn55, tn56, tn57, tn58, tn59, tn60, lH_eq, true_and, and_true, mdq_0 HC.1]
  refine m_isRunner (by omega) m nr q HC.1 HC.2.1.1 hr5 ?_
  simp only [rI_some, bI0, mdq_0 HC.1, true_and]
  refine ⟨fun z => by rwa [if_neg (fun y => z y.1)] at kk, fun z => ?_⟩
  refine m_in32 (by omega) mu 0 9999 rfl rfl rfl ?_
  simp only [rI_some, bI0, mdq_0 HC.1, true_and]
  refine ⟨fun y => ?_, fun y => by rwa [if_neg (fun x => y x.2)] at kk⟩
  have z := Decidable.not_not.mp z
  have y := Decidable.not_not.mp y
  rw [if_pos ⟨z, y⟩] at kk
  obtain ⟨r, hr, rfl⟩ := rn_of (by omega) z
  obtain ⟨u, hu, rfl⟩ := rg_of (n := 9999) rfl (by decide) y
  rw [nI_clamp (by omega)] at kk
  have hok := HQ.of_r (by omega)
  have hf : ∀ j, j < nr → hI h (m + 3) j = M 3 j := fun j hj => (HC.2.2.1.2.1 j hj).2.2
  have hw : ∀ j, j < nr → ∃ a, a ≤ 9999 ∧ M 3 j = nI a := fun j hj => nn_of (hok.2.2.1 j hj).2.2.1 (hok.2.2.1 j hj).2.2.2 (by decide)
  obtain ⟨s, hs, es⟩ := suF_nn nr hw
  refine m_allWealth (by omega) m nr HC.1 HC.2.1.1 hr5 ?_
  rw [suF_cg hf, es]
  unfold shV at kk
  rw [es] at kk
  have h0 : (nI s = 0) = (s = 0) := nI_eq_iff (b := 0) (by omega) (by decide)
  have hp0 : ((0 : Int32) < nI s) = (0 < s) := nI_lt_iff (a := 0) (by decide) (by omega)
  simp only [hp0] at kk
  simp only [rI_some, h0, true_and]
  refine ⟨fun x => ?_, fun x => ?_⟩
  · rw [if_pos (by omega)] at kk
    refine pe_loop (by omega) m nr r (M 3) (nI u) (nI s) HC.1 HC.2.1.1 hr5 hr (by rw [ne_eq, h0]; exact x) hf (fun j hj => ?_) rfl rfl kk nr 0 (by omega)
    obtain ⟨a, ha, ea⟩ := hw j hj
    have hm : u * a ≤ 9999 * 9999 := Nat.mul_le_mul hu ha
    refine ⟨u * a % s, ?_, ?_⟩
    · have := Nat.mod_le (u * a) s
      omega
    · rw [ea, show nI u * nI a = nI (u * a) from pk_mul u a]
      exact pk_rem (by omega) (by omega) (by omega)
  · rw [if_neg (by omega)] at kk
    exact kk
