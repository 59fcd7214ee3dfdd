/-! a day of the reference -/
theorem mg_aims {d E1 E2 : Nat} {Q : Option Value → AH → Prop} {h0 : AH} (hd : 10 ≤ d) (m nr nw : Nat) (R : Option (List (List (Nat × Nat) × List (Nat × Nat)))) (od : Nat → Option Int32) (H : ModAt h0 m) (HF : MFor h0 m R) (hn : hI h0 (m + 1) 1 = nI nr) (hn2 : hI h0 (m + 1) 2 = nI nw) (hr5 : nr ≤ 5) (hw6 : nw ≤ 6) (hsp : ∀ j, j < nr → 0 < hI h0 (m + 4) j) (hfe : 0 < hI h0 (m + 1) 0) (hpu : ∀ j, j < nr → -100 < hI h0 (m + 2) j) (hev : ∀ j, j < nw → 0 < hI h0 (m + 8) j) (hod : ∀ j, j < nr → hI h0 (m + 32) j = odI (-5) (od j) ∧ od j ≠ some (-5)) (k : ∀ h', Fr' h0 h' (fun b => b = m + 29 ∨ b = m + 30 ∨ b = m + 31) → (∀ j, j < nr → hI h' (m + 31) j = amF R (rA h0 m) (rM h0 m) nr nw od nr j) → Reach d nX12_goes (33, [.ref m, .int 0, .int 0, .float 0], []) h' E1 E2 Q) : ∀ (n i : Nat) (h : AH), i + n = nr → Fr' h0 h (fun b => b = m + 29 ∨ b = m + 30 ∨ b = m + 31) → (∀ j, j < i → hI h (m + 31) j = amF R (rA h0 m) (rM h0 m) nr nw od i j) → Reach d nX12_goes (4, [.ref m, .int 0, .int (nI i), .float 0], []) h E1 E2 Q
  | 0, i, h, hi, f, fa => by
    have : i = nr := by omega
    subst this
    refine wX12_goes_4 (by omega) m 0 (nI i) ?_
    simp only [f.1, f.2.1, rt_i, rt_b0, rt_b1, rt_v, rt_l, rt_o, rt_a, rV_none, rI_some, rL_some, rR_some, rT_some, rt_bI, hIf_sL, hIf_sR, hS_sI, hS_sL, hS_sR, hS_cpI, hR_sI, hR_sL, hR_cpI, hL_sI, hL_sR, hL_cpI, hI_sL, hI_sR, hN_sI, hN_sL, hN_sR, hN_cpI, hU_sI, hU_sL, hU_sR, hU_cpI, tn0, tn1, tn2, tn3, tn4, tn5, tn6, tn7, tn8, tn9, tn10, tn11, tn12, tn13, tn14, tn15, tn16, tn17, tn18, tn19, tn20, tn21, tn22, tn23, tn24, tn25, tn26, tn27, tn28, tn29, tn30, tn31, tn32, tn33, tn34, tn35, tn36, tn37, tn38, tn39, tn40, tn41, tn42, tn43, tn44, tn45, tn46, tn47, tn48, tn49, tn50, tn51, tn52, tn53, tn54, tn55, tn56, tn57, tn58, tn59, tn60, lH_eq, true_and, and_true, mdq_0 H, mdq_1 H, mds_1 H, vl7_0, vl7_1, vl7_2, vl7_3, vl7_4, vl7_5, vl7_6, f.2.2.2.2.1 (m + 1) (by omega), hn, nI_le_iff (show i < 2 ^ 31 by omega) (show i < 2 ^ 31 by omega)]
    exact ⟨fun _ => k h f fa, fun z => absurd (Nat.le_refl i) z⟩
  | n + 1, i, h, hi, f, fa => by
    have gI : ∀ x, ¬ (x = m + 29 ∨ x = m + 30 ∨ x = m + 31) → hI h x = hI h0 x := fun x hx => funext (f.2.2.2.2.1 x hx)
    have eA : rA h m = rA h0 m := by
      unfold rA
      rw [gI (m + 1) (by omega), gI (m + 12) (by omega), gI (m + 13) (by omega), gI (m + 14) (by omega), gI (m + 7) (by omega), gI (m + 8) (by omega)]
    have eM : rM h m = rM h0 m := by
      unfold rM
      rw [gI (m + 1) (by omega), gI (m + 2) (by omega), gI (m + 3) (by omega), gI (m + 4) (by omega), gI (m + 5) (by omega), gI (m + 6) (by omega)]
    refine wX12_goes_4 (by omega) m 0 (nI i) ?_
    simp only [f.1, f.2.1, rt_i, rt_b0, rt_b1, rt_v, rt_l, rt_o, rt_a, rV_none, rI_some, rL_some, rR_some, rT_some, rt_bI, hIf_sL, hIf_sR, hS_sI, hS_sL, hS_sR, hS_cpI, hR_sI, hR_sL, hR_cpI, hL_sI, hL_sR, hL_cpI, hI_sL, hI_sR, hN_sI, hN_sL, hN_sR, hN_cpI, hU_sI, hU_sL, hU_sR, hU_cpI, tn0, tn1, tn2, tn3, tn4, tn5, tn6, tn7, tn8, tn9, tn10, tn11, tn12, tn13, tn14, tn15, tn16, tn17, tn18, tn19, tn20, tn21, tn22, tn23, tn24, tn25, tn26, tn27, tn28, tn29, tn30, tn31, tn32, tn33, tn34, tn35, tn36, tn37, tn38, tn39, tn40, tn41, tn42, tn43, tn44, tn45, tn46, tn47, tn48, tn49, tn50, tn51, tn52, tn53, tn54, tn55, tn56, tn57, tn58, tn59, tn60, lH_eq, true_and, and_true, mdq_0 H, mdq_1 H, mds_1 H, mdq_41 H, mds_41 H, vl7_0, vl7_1, vl7_2, vl7_3, vl7_4, vl7_5, vl7_6, f.2.2.2.2.1 (m + 1) (by omega), hn, nI_le_iff (show nr < 2 ^ 31 by omega) (show i < 2 ^ 31 by omega), vp_in_nI (show i < 5 by omega) (show 5 < 2 ^ 31 by omega), nI_clamp (show i < 2 ^ 31 by omega)]
    refine ⟨fun z => absurd z (by omega), fun _ => ?_⟩
    refine m_choice (by omega) m i nr nw R (od i) (H.fr f) (HF.cg (fun b h1 h2 => f.2.2.2.2.1 b (by omega)) (by rw [gI (m + 1) (by omega)])) (by rw [gI (m + 1) (by omega)]; exact hn) (by rw [gI (m + 1) (by omega)]; exact hn2) (by omega) hr5 hw6 (by rw [gI (m + 4) (by omega)]; exact hsp i (by omega)) (by rw [gI (m + 1) (by omega)]; exact hfe) (fun j hj => by rw [gI (m + 2) (by omega)]; exact hpu j hj) (fun j hj => by rw [gI (m + 8) (by omega)]; exact hev j hj) (by rw [gI (m + 32) (by omega)]; exact (hod i (by omega)).1) (hod i (by omega)).2 (fun h1 f1 => ?_)
    simp only [rI_some, f1.1, f.1, mdq_0 H, mdq_41 H, mds_41 H, true_and, lH_eq, vp_in_nI (show i < 5 by omega) (show 5 < 2 ^ 31 by omega), nI_clamp (show i < 2 ^ 31 by omega), nI_1, eA, eM]
    refine mg_aims hd m nr nw R od H HF hn hn2 hr5 hw6 hsp hfe hpu hev hod k n (i + 1) _ (by omega) ((f.trans (f1.mono (fun b z => by omega))).trans (Fr'.sI (Or.inr (Or.inr rfl)))) (fun j hj => ?_)
    rw [hI_sI, if_pos rfl]
    have g1 := f1.2.2.2.2.1 (m + 31) (by omega) j
    by_cases e : j = i
    · simp only [e, if_true, amF]
      rw [chF_ai (fun j hj => fa j hj)]
      rfl
    · have := fa j (by omega)
      simp only [e, if_false, amF, g1, this]
theorem le9999 {x : Int32} : (if x < 9999 then x else 9999) = (if x ≤ 9999 then x else 9999) := by
  by_cases h : x < 9999
  · rw [if_pos h, if_pos (Int32.le_of_lt h)]
  · rw [if_neg h]
    split
    · rename_i z
      exact Int32.le_antisymm (i32_le_of h) z
    · rfl
theorem mg_gots {d E1 E2 : Nat} {Q : Option Value → AH → Prop} {h0 : AH} (hd : 6 ≤ d) (m nr nw : Nat) (gt : Nat → Option Nat) (H : ModAt h0 m) (hn : hI h0 (m + 1) 1 = nI nr) (hn2 : hI h0 (m + 1) 2 = nI nw) (hr5 : nr ≤ 5) (hw6 : nw ≤ 6) (hgt : gt = fun w => ftF (hI h0 (m + 31)) (hI h0 (m + 4)) (hI h0 (m + 2)) (hI h0 (m + 5) w) w nr) (k : ∀ h', Fr' h0 h' (fun b => b = m + 3 ∨ b = m + 6) → (∀ j, j < nw → hI h' (m + 6) j = oI (gt j)) → (∀ j, hI h' (m + 3) j = (rwF (hI h0 (m + 31)) nr (hI h0 (m + 7)) gt (hI h0 (m + 2)) (hI h0 (m + 3)) nw).2 j) → Reach d nX12_goes (122, [.ref m, .int (biF gt nw), .int 0, .float 0], []) h' E1 E2 Q) : ∀ (n i : Nat) (h : AH), i + n = nw → Fr' h0 h (fun b => b = m + 3 ∨ b = m + 6) → (∀ j, j < i → hI h (m + 6) j = oI (gt j)) → (∀ j, hI h (m + 3) j = (rwF (hI h0 (m + 31)) nr (hI h0 (m + 7)) gt (hI h0 (m + 2)) (hI h0 (m + 3)) i).2 j) → Reach d nX12_goes (33, [.ref m, .int (biF gt i), .int (nI i), .float 0], []) h E1 E2 Q
  | 0, i, h, hi, f, fa, fb => by
    have : i = nw := by omega
    subst this
    refine wX12_goes_33 (by omega) m _ (nI i) ?_
    simp only [f.1, f.2.1, rt_i, rt_b0, rt_b1, rt_v, rt_l, rt_o, rt_a, rV_none, rI_some, rL_some, rR_some, rT_some, rt_bI, hIf_sL, hIf_sR, hS_sI, hS_sL, hS_sR, hS_cpI, hR_sI, hR_sL, hR_cpI, hL_sI, hL_sR, hL_cpI, hI_sL, hI_sR, hN_sI, hN_sL, hN_sR, hN_cpI, hU_sI, hU_sL, hU_sR, hU_cpI, tn0, tn1, tn2, tn3, tn4, tn5, tn6, tn7, tn8, tn9, tn10, tn11, tn12, tn13, tn14, tn15, tn16, tn17, tn18, tn19, tn20, tn21, tn22, tn23, tn24, tn25, tn26, tn27, tn28, tn29, tn30, tn31, tn32, tn33, tn34, tn35, tn36, tn37, tn38, tn39, tn40, tn41, tn42, tn43, tn44, tn45, tn46, tn47, tn48, tn49, tn50, tn51, tn52, tn53, tn54, tn55, tn56, tn57, tn58, tn59, tn60, lH_eq, true_and, and_true, mdq_0 H, mdq_1 H, mds_1 H, vl7_0, vl7_1, vl7_2, vl7_3, vl7_4, vl7_5, vl7_6, f.2.2.2.2.1 (m + 1) (by omega), hn2, nI_le_iff (show i < 2 ^ 31 by omega) (show i < 2 ^ 31 by omega)]
    exact ⟨fun _ => k h f fa fb, fun z => absurd (Nat.le_refl i) z⟩
  | n + 1, i, h, hi, f, fa, fb => by
    have gI : ∀ x, ¬ (x = m + 3 ∨ x = m + 6) → hI h x = hI h0 x := fun x hx => funext (f.2.2.2.2.1 x hx)
    have hgi : ftF (hI h0 (m + 31)) (hI h0 (m + 4)) (hI h0 (m + 2)) (hI h0 (m + 5) i) i nr = gt i := by rw [hgt]
    have hg5 : ∀ b, gt i = some b → b < 5 := fun b hb => by
      have := ftF_lt _ _ _ _ _ _ _ (hgi.trans hb)
      omega
    refine wX12_goes_33 (by omega) m _ (nI i) ?_
    simp only [f.1, f.2.1, rt_i, rt_b0, rt_b1, rt_v, rt_l, rt_o, rt_a, rV_none, rI_some, rL_some, rR_some, rT_some, rt_bI, hIf_sL, hIf_sR, hS_sI, hS_sL, hS_sR, hS_cpI, hR_sI, hR_sL, hR_cpI, hL_sI, hL_sR, hL_cpI, hI_sL, hI_sR, hN_sI, hN_sL, hN_sR, hN_cpI, hU_sI, hU_sL, hU_sR, hU_cpI, tn0, tn1, tn2, tn3, tn4, tn5, tn6, tn7, tn8, tn9, tn10, tn11, tn12, tn13, tn14, tn15, tn16, tn17, tn18, tn19, tn20, tn21, tn22, tn23, tn24, tn25, tn26, tn27, tn28, tn29, tn30, tn31, tn32, tn33, tn34, tn35, tn36, tn37, tn38, tn39, tn40, tn41, tn42, tn43, tn44, tn45, tn46, tn47, tn48, tn49, tn50, tn51, tn52, tn53, tn54, tn55, tn56, tn57, tn58, tn59, tn60, lH_eq, true_and, and_true, mdq_0 H, mdq_1 H, mds_1 H, mdq_3 H, mds_3 H, mdq_6 H, mds_6 H, mdq_7 H, mds_7 H, vl7_0, vl7_1, vl7_2, vl7_3, vl7_4, vl7_5, vl7_6, f.2.2.2.2.1 (m + 1) (by omega), hn2, nI_le_iff (show nw < 2 ^ 31 by omega) (show i < 2 ^ 31 by omega), vp_in_nI (show i < 6 by omega) (show 6 < 2 ^ 31 by omega), nI_clamp (show i < 2 ^ 31 by omega)]
    refine ⟨fun z => absurd z (by omega), fun _ => ?_⟩
    refine m_firstTo (by omega) m i nr (H.fr f) (by omega) (by rw [gI (m + 1) (by omega)]; exact hn) hr5 ?_
    rw [gI (m + 31) (by omega), gI (m + 4) (by omega), gI (m + 2) (by omega), gI (m + 5) (by omega), hgi]
    simp only [rI_some, f.1, f.2.1, rt_i, rt_b0, rt_b1, rt_v, rt_l, rt_o, rt_a, rV_none, rI_some, rL_some, rR_some, rT_some, rt_bI, hIf_sL, hIf_sR, hS_sI, hS_sL, hS_sR, hS_cpI, hR_sI, hR_sL, hR_cpI, hL_sI, hL_sR, hL_cpI, hI_sL, hI_sR, hN_sI, hN_sL, hN_sR, hN_cpI, hU_sI, hU_sL, hU_sR, hU_cpI, tn0, tn1, tn2, tn3, tn4, tn5, tn6, tn7, tn8, tn9, tn10, tn11, tn12, tn13, tn14, tn15, tn16, tn17, tn18, tn19, tn20, tn21, tn22, tn23, tn24, tn25, tn26, tn27, tn28, tn29, tn30, tn31, tn32, tn33, tn34, tn35, tn36, tn37, tn38, tn39, tn40, tn41, tn42, tn43, tn44, tn45, tn46, tn47, tn48, tn49, tn50, tn51, tn52, tn53, tn54, tn55, tn56, tn57, tn58, tn59, tn60, lH_eq, true_and, and_true, mdq_0 H, mdq_1 H, mds_1 H, mdq_3 H, mds_3 H, mdq_6 H, mds_6 H, mdq_7 H, mds_7 H, vp_in_nI (show i < 6 by omega) (show 6 < 2 ^ 31 by omega), nI_clamp (show i < 2 ^ 31 by omega), lH_eq, hI_sI, if_true, oI_m1 _ (fun b hb => Nat.lt_trans (hg5 b hb) (by decide)), nI_1, show (m + 3 = m + 6) = False by simp, show (m + 7 = m + 6) = False by simp, if_false, gI (m + 7) (by omega)]
    have f6 := f.trans (Fr'.sI (h := h) (a := m + 6) (i := i) (x := oI (gt i)) (S := fun b => b = m + 3 ∨ b = m + 6) (Or.inr rfl))
    have go := fun h1 f1 q1 q2 => mg_gots hd m nr nw gt H hn hn2 hr5 hw6 hgt k n (i + 1) h1 (by omega) f1 q1 q2
    have q1 : ∀ j, j < i + 1 → hI (sI h (m + 6) i (oI (gt i))) (m + 6) j = oI (gt j) := fun j hj => by
      rw [hI_sI, if_pos rfl]
      by_cases e : j = i
      · rw [if_pos e, e]
      · rw [if_neg e]; exact fa j (by omega)
    cases hb : gt i with
    | none =>
      refine ⟨fun _ => ?_, fun z => absurd rfl z⟩
      have g1 := go _ f6 q1 (fun j => by rw [hI_sI, if_neg (by omega), fb j]; simp only [rwF, hb])
      simp only [biF, hb, if_true] at g1
      exact g1
    | some b =>
      have hb5 := hg5 b hb
      have e1 : biF gt (i + 1) = biF gt i ||| ((1 : Int32) <<< (nI i &&& 31)) := by simp [biF, hb]
      rw [e1] at go
      rw [hb] at f6 q1
      have hrw : ∀ j, (rwF (hI h0 (m + 31)) nr (hI h0 (m + 7)) gt (hI h0 (m + 2)) (hI h0 (m + 3)) (i + 1)).2 j = if j = b then (if hI h (m + 3) b + hI h0 (m + 7) i ≤ 9999 then hI h (m + 3) b + hI h0 (m + 7) i else 9999) else hI h (m + 3) j := fun j => by
        simp only [rwF, hb, upd, ← fb, le9999]
      refine ⟨fun z => absurd z (by simp), fun _ => ?_⟩
      simp only [oI, vp_in_nI (show b < 5 by omega) (show 5 < 2 ^ 31 by omega), nI_clamp (show b < 2 ^ 31 by omega), true_and]
      refine ⟨fun z => ?_, fun z => ?_⟩
      · refine go _ (f6.trans (Fr'.sI (Or.inl rfl))) (fun j hj => by rw [hI_sI, if_neg (by omega)]; exact q1 j hj) (fun j => ?_)
        rw [hrw, if_pos z]
        simp only [hI_sI, if_true, show (m + 3 = m + 6) = False by simp, if_false]
      · refine go _ (f6.trans (Fr'.sI (Or.inl rfl))) (fun j hj => by rw [hI_sI, if_neg (by omega)]; exact q1 j hj) (fun j => ?_)
        rw [hrw, if_neg z]
        simp only [hI_sI, if_true, show (m + 3 = m + 6) = False by simp, if_false]
theorem mz_loop {d E1 E2 : Nat} {Q : Option Value → AH → Prop} (hd : 4 ≤ d) (m : Nat) (bits : Int32) : ∀ (n i : Nat) (h : AH), i + n = 5 → ModAt h m → hN h = E1 → hU h = E2 → (∀ h', Fr' h h' (fun b => b = m + 1 ∨ b = m + 2) → (∀ j, i ≤ j → j < 5 → hI h' (m + 2) j = 0) → (∀ j, j < i → hI h' (m + 2) j = hI h (m + 2) j) → (∀ j, hI h' (m + 1) j = if j = 3 then hI h (m + 1) 3 + 1 else hI h (m + 1) j) → Q (some (.int bits)) h') → Reach d nX12_goes (169, [.ref m, .int bits, .int (nI i), .float 0], []) h E1 E2 Q
  | 0, i, h, hi, H, e1, e2, k => by
    have : i = 5 := by omega
    subst this
    refine wX12_goes_169 hd m bits (nI 5) ?_
    simp only [rt_i, rt_b0, rt_b1, rt_v, rt_l, rt_o, rt_a, rV_none, rI_some, rL_some, rR_some, rT_some, rt_bI, hIf_sL, hIf_sR, hS_sI, hS_sL, hS_sR, hS_cpI, hR_sI, hR_sL, hR_cpI, hL_sI, hL_sR, hL_cpI, hI_sL, hI_sR, hN_sI, hN_sL, hN_sR, hN_cpI, hU_sI, hU_sL, hU_sR, hU_cpI, tn0, tn1, tn2, tn3, tn4, tn5, tn6, tn7, tn8, tn9, tn10, tn11, tn12, tn13, tn14, tn15, tn16, tn17, tn18, tn19, tn20, tn21, tn22, tn23, tn24, tn25, tn26, tn27, tn28, tn29, tn30, tn31, tn32, tn33, tn34, tn35, tn36, tn37, tn38, tn39, tn40, tn41, tn42, tn43, tn44, tn45, tn46, tn47, tn48, tn49, tn50, tn51, tn52, tn53, tn54, tn55, tn56, tn57, tn58, tn59, tn60, lH_eq, true_and, and_true, mdq_0 H, mdq_1 H, mds_1 H, vl7_0, vl7_1, vl7_2, vl7_3, vl7_4, vl7_5, vl7_6]
    exact ⟨fun _ => ⟨e1, e2, k _ (Fr'.sI (Or.inl rfl)) (fun j h1 h2 => by omega) (fun j _ => by rw [hI_sI, if_neg (by omega)]) (fun j => by rw [hI_sI, if_pos rfl])⟩, fun z => absurd (by decide) z⟩
  | n + 1, i, h, hi, H, e1, e2, k => by
    refine wX12_goes_169 hd m bits (nI i) ?_
    have h5 : (5 ≤ nI i) = (5 ≤ i) := nI_le_iff (a := 5) (by decide) (by omega)
    simp only [rt_i, rt_b0, rt_b1, rt_v, rt_l, rt_o, rt_a, rV_none, rI_some, rL_some, rR_some, rT_some, rt_bI, hIf_sL, hIf_sR, hS_sI, hS_sL, hS_sR, hS_cpI, hR_sI, hR_sL, hR_cpI, hL_sI, hL_sR, hL_cpI, hI_sL, hI_sR, hN_sI, hN_sL, hN_sR, hN_cpI, hU_sI, hU_sL, hU_sR, hU_cpI, tn0, tn1, tn2, tn3, tn4, tn5, tn6, tn7, tn8, tn9, tn10, tn11, tn12, tn13, tn14, tn15, tn16, tn17, tn18, tn19, tn20, tn21, tn22, tn23, tn24, tn25, tn26, tn27, tn28, tn29, tn30, tn31, tn32, tn33, tn34, tn35, tn36, tn37, tn38, tn39, tn40, tn41, tn42, tn43, tn44, tn45, tn46, tn47, tn48, tn49, tn50, tn51, tn52, tn53, tn54, tn55, tn56, tn57, tn58, tn59, tn60, lH_eq, true_and, and_true, mdq_0 H, mdq_2 H, mds_2 H, vp_in_nI (show i < 5 by omega) (show 5 < 2 ^ 31 by omega), nI_clamp (show i < 2 ^ 31 by omega), h5, nI_1]
    refine ⟨fun z => absurd z (by omega), fun _ => ?_⟩
    refine mz_loop hd m bits n (i + 1) _ (by omega) H e1 e2 (fun h' f q1 q2 q3 => k h' ((Fr'.sI (Or.inr rfl)).trans f) (fun j h1 h2 => ?_) (fun j hj => ?_) (fun j => ?_))
    · by_cases e : j = i
      · rw [q2 j (by omega), hI_sI, if_pos rfl, if_pos e]
      · exact q1 j (by omega) h2
    · rw [q2 j (by omega), hI_sI, if_pos rfl, if_neg (by omega)]
    · rw [q3 j]
      simp only [hI_sI, show (m + 1 = m + 2) = False by simp, if_false]
theorem mg_pays {d E1 E2 : Nat} {Q : Option Value → AH → Prop} {h0 : AH} (hd : 5 ≤ d) (m nr nw : Nat) (gt : Nat → Option Nat) (bits : Int32) (we : Nat → Int32) (H : ModAt h0 m) (hn : hI h0 (m + 1) 1 = nI nr) (hn2 : hI h0 (m + 1) 2 = nI nw) (hr5 : nr ≤ 5) (hw6 : nw ≤ 6) (hfe : 0 < hI h0 (m + 1) 0) (hgt : ∀ j, j < nw → hI h0 (m + 6) j = oI (gt j)) (hg : ∀ w f, gt w = some f → f < nr) (hok : puOk (hI h0 (m + 2)) nr) (e1 : hN h0 = E1) (e2 : hU h0 = E2) (k : ∀ h', Fr' h0 h' (fun b => b = m + 1 ∨ b = m + 2) → (∀ j, j < 5 → hI h' (m + 2) j = if hI h0 (m + 1) 0 - 1 - irm (hI h0 (m + 1) 3) (hI h0 (m + 1) 0) = 0 then 0 else (rwF (hI h0 (m + 31)) nr (hI h0 (m + 7)) gt (hI h0 (m + 2)) we nw).1 j) → (∀ j, hI h' (m + 1) j = if j = 3 then hI h0 (m + 1) 3 + 1 else hI h0 (m + 1) j) → Q (some (.int bits)) h') : ∀ (n i : Nat) (h : AH), i + n = nw → Fr' h0 h (fun b => b = m + 2) → (∀ j, hI h (m + 2) j = (rwF (hI h0 (m + 31)) nr (hI h0 (m + 7)) gt (hI h0 (m + 2)) we i).1 j) → puOk (hI h (m + 2)) nr → Reach d nX12_goes (122, [.ref m, .int bits, .int (nI i), .float 0], []) h E1 E2 Q
  | 0, i, h, hi, f, fa, ok => by
    have : i = nw := by omega
    subst this
    have gI : ∀ x, ¬ (x = m + 2) → hI h x = hI h0 x := fun x hx => funext (f.2.2.2.2.1 x hx)
    have f' := f.mono (T := fun b => b = m + 1 ∨ b = m + 2) (fun b z => Or.inr z)
    refine wX12_goes_122 (by omega) m bits (nI i) ?_
    have hc : (irm (hI h0 (m + 1) 3) (hI h0 (m + 1) 0) = hI h0 (m + 1) 0 - 1) = (hI h0 (m + 1) 0 - 1 - irm (hI h0 (m + 1) 3) (hI h0 (m + 1) 0) = 0) := by
      apply propext
      constructor
      · intro z; rw [z]; exact Int32.sub_self _
      · intro z; grind
    simp only [f.1, f.2.1, rt_i, rt_b0, rt_b1, rt_v, rt_l, rt_o, rt_a, rV_none, rI_some, rL_some, rR_some, rT_some, rt_bI, hIf_sL, hIf_sR, hS_sI, hS_sL, hS_sR, hS_cpI, hR_sI, hR_sL, hR_cpI, hL_sI, hL_sR, hL_cpI, hI_sL, hI_sR, hN_sI, hN_sL, hN_sR, hN_cpI, hU_sI, hU_sL, hU_sR, hU_cpI, tn0, tn1, tn2, tn3, tn4, tn5, tn6, tn7, tn8, tn9, tn10, tn11, tn12, tn13, tn14, tn15, tn16, tn17, tn18, tn19, tn20, tn21, tn22, tn23, tn24, tn25, tn26, tn27, tn28, tn29, tn30, tn31, tn32, tn33, tn34, tn35, tn36, tn37, tn38, tn39, tn40, tn41, tn42, tn43, tn44, tn45, tn46, tn47, tn48, tn49, tn50, tn51, tn52, tn53, tn54, tn55, tn56, tn57, tn58, tn59, tn60, lH_eq, true_and, and_true, mdq_0 H, mdq_1 H, mds_1 H, vl7_0, vl7_1, vl7_2, vl7_3, vl7_4, vl7_5, vl7_6, gI (m + 1) (by omega), hn2, nI_le_iff (show i < 2 ^ 31 by omega) (show i < 2 ^ 31 by omega), irm_eq, hc]
    refine ⟨fun _ => ⟨fun z => ?_, fun z => ?_, fun z => ?_⟩, fun z => absurd (Nat.le_refl i) z⟩
    · rw [z] at hfe; exact absurd hfe (by decide)
    · refine ⟨f.2.2.1.trans e1, f.2.2.2.1.trans e2, k _ (f'.trans (Fr'.sI (Or.inl rfl))) (fun j hj => ?_) (fun j => ?_)⟩
      · rw [hI_sI, if_neg (by omega), if_neg z, fa j]
      · rw [hI_sI, if_pos rfl, gI (m + 1) (by omega)]
    · refine mz_loop (by omega) m bits 5 0 h (by omega) (H.fr f) (f.2.2.1.trans e1) (f.2.2.2.1.trans e2) (fun h' f2 q1 q2 q3 => k h' (f'.trans f2) (fun j hj => ?_) (fun j => ?_))
      · rw [if_pos z, q1 j (by omega) hj]
      · rw [q3 j, gI (m + 1) (by omega)]
  | n + 1, i, h, hi, f, fa, ok => by
    have gI : ∀ x, ¬ (x = m + 2) → hI h x = hI h0 x := fun x hx => funext (f.2.2.2.2.1 x hx)
    refine wX12_goes_122 (by omega) m bits (nI i) ?_
    simp only [f.1, f.2.1, rt_i, rt_b0, rt_b1, rt_v, rt_l, rt_o, rt_a, rV_none, rI_some, rL_some, rR_some, rT_some, rt_bI, hIf_sL, hIf_sR, hS_sI, hS_sL, hS_sR, hS_cpI, hR_sI, hR_sL, hR_cpI, hL_sI, hL_sR, hL_cpI, hI_sL, hI_sR, hN_sI, hN_sL, hN_sR, hN_cpI, hU_sI, hU_sL, hU_sR, hU_cpI, tn0, tn1, tn2, tn3, tn4, tn5, tn6, tn7, tn8, tn9, tn10, tn11, tn12, tn13, tn14, tn15, tn16, tn17, tn18, tn19, tn20, tn21, tn22, tn23, tn24, tn25, tn26, tn27, tn28, tn29, tn30, tn31, tn32, tn33, tn34, tn35, tn36, tn37, tn38, tn39, tn40, tn41, tn42, tn43, tn44, tn45, tn46, tn47, tn48, tn49, tn50, tn51, tn52, tn53, tn54, tn55, tn56, tn57, tn58, tn59, tn60, lH_eq, true_and, and_true, mdq_0 H, mdq_1 H, mds_1 H, vl7_0, vl7_1, vl7_2, vl7_3, vl7_4, vl7_5, vl7_6, gI (m + 1) (by omega), hn2, nI_le_iff (show nw < 2 ^ 31 by omega) (show i < 2 ^ 31 by omega), irm_eq]
    refine ⟨fun z => absurd z (by omega), fun _ => ?_⟩
    refine m_pays (by omega) m i nr (gt i) (H.fr f) (by rw [gI (m + 1) (by omega)]; exact hn) hr5 (by omega) (by rw [gI (m + 6) (by omega)]; exact hgt i (by omega)) (hg i) ok (fun h1 f1 q1 => ?_)
    rw [rV_none, nI_1]
    rw [gI (m + 31) (by omega), show hI h (m + 2) = (rwF (hI h0 (m + 31)) nr (hI h0 (m + 7)) gt (hI h0 (m + 2)) we i).1 from funext fa] at q1
    have ok0 : puOk (rwF (hI h0 (m + 31)) nr (hI h0 (m + 7)) gt (hI h0 (m + 2)) we i).1 nr := fun j hj => by rw [← fa j]; exact ok j hj
    have q2 : ∀ j, hI h1 (m + 2) j = (rwF (hI h0 (m + 31)) nr (hI h0 (m + 7)) gt (hI h0 (m + 2)) we (i + 1)).1 j := fun j => by
      rw [q1 j]
      simp only [rwF]
      cases hb : gt i <;> rfl
    refine mg_pays hd m nr nw gt bits we H hn hn2 hr5 hw6 hfe hgt hg hok e1 e2 k n (i + 1) h1 (by omega) (f.trans f1) q2 (fun j hj => ?_)
    rw [q1 j]
    cases hb : gt i with
    | none => exact ok0 j hj
    | some b => exact pyF_ok ok0 (hg i b hb) nr (Nat.le_refl nr) j hj
