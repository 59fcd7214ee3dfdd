/-! rows of choices are tried -/
theorem faM_mom {h : AH} {g t a ru nr nw k : Nat} {A M : PC} {R : Option (List (List (Nat × Nat) × List (Nat × Nat)))} (H : CC h g t a ru nr nw A M R) : (faM g t k + 6 ≤ g + 6 + 6 * k ∨ g + 24 ≤ faM g t k) ∧ (∀ j, k ≤ j → j < 3 → faM g t k + 6 ≤ g + 6 + 6 * j ∨ g + 6 + 6 * j + 6 ≤ faM g t k) := by
  obtain ⟨-, -, -, -, d2, -⟩ := H
  unfold faM
  constructor
  · split <;> omega
  · intro j h1 h2
    split <;> omega
theorem cc_pass {d : Nat} {h : AH} {Q : Option Value → AH → Prop} (hd : 10 ≤ d) (g t a ru nr nw r i m : Nat) (A M N : PC) (R : Option (List (List (Nat × Nat) × List (Nat × Nat)))) (H : CC h g t a ru nr nw A M R) (HN : MomIs h m nr nw N) (hm : g + 6 ≤ m ∧ m + 5 ≤ g + 23) (hi : i < 1000) (hr : r < nr) (ho : ∀ j, j < nr → j ≠ r → hI h (g + 2) j = -2) (hor : hI h (g + 2) r = cI i) (k : ∀ h' v, Fr' h h' (fun c => (g + 3 ≤ c ∧ c ≤ g + 5) ∨ mS m c) → MomIs h' m nr nw (paF R A nr nw (od1 r i) N) → Q (some (.int v)) h') : Calls d nX1_pass [.ref (g + 1), .ref a, .ref m, .ref ru] h (hN h) (hU h) Q := by
  obtain ⟨⟨h0, h1, h2, h3, h4, h5, h6, h7, h8, h9, h10, h11⟩, ⟨c1, c2, c3, c4, c5, c6, c7, c8, c9, c10⟩, ⟨x1, x2, x3, x4⟩, d1, d2, d3⟩ := H
  have dam := hil_mom_dis x2.1 HN.1
  refine sp_pass hd (g + 1) ru a m nr nw R (od1 r i) A N c1 x2 HN x3 (fun j hj => ?_) (by omega) (by omega) dam (fun z => by have := d3 z; omega) (fun h' f q => k h' _ (f.mono (fun c z => ?_)) q)
  · by_cases c : j = r
    · subst c
      simp only [od1, if_true, odI]
      exact ⟨hor, fun z => cI_m2 hi (Option.some.inj z)⟩
    · simp only [od1, if_neg c, odI]
      exact ⟨ho j hj c, fun z => by cases z⟩
  · unfold mS
    omega
theorem tr_main {d0 : Nat} (hd0 : 12 ≤ d0) (g t a ru nr nw r days : Nat) (A M : PC) (R : Option (List (List (Nat × Nat) × List (Nat × Nat)))) (hd3 : days ≤ 3) (hr : r < nr) : ∀ (rem k : Nat) {h : AH} {Q : Option Value → AH → Prop} (d : Nat) (N : PC) (ch : Nat → Int32) (s : Int32 × (Nat → Int32)), k + rem = days → d0 + rem ≤ d → CC h g t a ru nr nw A M R → MomIs h (faM g t k) nr nw N → TrS h g r nr days s → (∀ j, j < k → hI h (g + 24) j = ch j) → (∀ h', Fr' h h' (Gk g k) → (∀ j, j < k → hI h' (g + 24) j = hI h (g + 24) j) → TrS h' g r nr days (trF R A nr nw r rem k N ch s) → Q none h') → Calls d nX0_tryRows [.ref g, .int (nI r), .int (nI k), .int (nI days), .ref (faM g t k)] h (hN h) (hU h) Q
  | 0, k, h, Q, d, N, ch, s, hk, hd, H, HN, HS, hch, kk => by
    obtain ⟨e, rfl⟩ : ∃ e, d = e + 1 := ⟨d - 1, by omega⟩
    have b1 := H.2.2.1.2.1.2.2.2.1
    have : k = days := by omega
    subst this
    have ew : hI h (faM g t k + 3) r = N 3 r := (HN.2.1.2.1 r hr).2.2
    have HM := HN.1
    refine wX0_tryRows (by omega) g (nI r) (nI k) (nI k) (faM g t k) ?_
    simp only [rt_i, rt_b0, rt_b1, rt_v, rt_l, rt_o, rt_a, rV_none, rI_some, rL_some, rR_some, rT_some, rt_bI, hIf_sL, hIf_sR, hS_sI, hS_sL, hS_sR, hS_cpI, hR_sI, hR_sL, hR_cpI, hL_sI, hL_sR, hL_cpI, hI_sL, hI_sR, hN_sI, hN_sL, hN_sR, hN_cpI, hU_sI, hU_sL, hU_sR, hU_cpI, tn0, tn1, tn2, tn3, tn4, tn5, tn6, tn7, tn8, tn9, tn10, tn11, tn12, tn13, tn14, tn15, tn16, tn17, tn18, tn19, tn20, tn21, tn22, tn23, tn24, tn25, tn26, tn27, tn28, tn29, tn30, tn31, tn32, tn33, tn34, tn35, tn36, tn37, tn38, tn39, tn40, tn41, tn42, tn43, tn44, tn45, tn46, tn47, tn48, tn49, tn50, tn51, tn52, tn53, tn54, tn55, tn56, tn57, tn58, tn59, tn60, lH_eq, true_and, and_true, nI_le_iff (show k < 2 ^ 31 by omega) (show k < 2 ^ 31 by omega), moq_0 HM, moq_1 HM, moq_2 HM, moq_3 HM, moq_4 HM, moq_5 HM, moq_6 HM, moq_7 HM, moq_8 HM, moq_9 HM, moq_10 HM, vp_in_nI (show r < 5 by omega) (show 5 < 2 ^ 31 by omega), nI_clamp (show r < 2 ^ 31 by omega), ew, H.1.1]
    refine ⟨fun _ => ?_, fun z => absurd (Nat.le_refl k) z⟩
    refine sp_weighRow (by omega) g t a ru nr nw r k A M R (N 3 r) ch s hd3 H HS hch (fun h' f q => ?_)
    simp only [rV_none]
    refine ⟨f.2.2.1, f.2.2.2.1, kk h' (f.mono (fun c z => by unfold Gk; omega)) (fun j hj => f.2.2.2.2.1 (g + 24) (by omega) j) q⟩
  | rem + 1, k, h, Q, d, N, ch, s, hk, hd, H, HN, HS, hch, kk => by
    obtain ⟨e, rfl⟩ : ∃ e, d = e + 1 := ⟨d - 1, by omega⟩
    have b1 := H.2.2.1.2.1.2.2.2.1
    have b2 := H.2.2.1.2.1.2.2.2.2.1
    -- the loop over the choices
    have loop : ∀ (n i : Nat) (h1 : AH), i + n = nw + 1 → Fr' h h1 (Gk g k) → (∀ j, j < k → hI h1 (g + 24) j = hI h (g + 24) j) → TrS h1 g r nr days (lpF (fun i s => if mrB A (N 0 0) i = true then trF R A nr nw r rem (k + 1) (paF R A nr nw (od1 r i) N) (upd ch k (cI i)) s else s) i s) → Reach e nX0_tryRows (54, [.ref g, .int (nI r), .int (nI k), .int (nI days), .ref (faM g t k), .ref (g + 6 + 6 * k), .int (cI i)], []) h1 (hN h) (hU h) Q := by
      intro n
      induction n with
      | zero =>
        intro i h1 hi f q1 q2
        have : i = nw + 1 := by omega
        subst this
        have H1 := H.fr (f.mono (fun c z => Gk_GB z))
        obtain ⟨⟨h0, -, -, -, -, -, -, -, -, h9, -, h11⟩, -, ⟨x1, x2, -, -⟩, -⟩ := H1
        refine wX0_tryRows_54 (by omega) g (nI r) (nI k) (nI days) _ _ (cI (nw + 1)) ?_
        simp only [rt_i, rt_b0, rt_b1, rt_v, rt_l, rt_o, rt_a, rV_none, rI_some, rL_some, rR_some, rT_some, rt_bI, hIf_sL, hIf_sR, hS_sI, hS_sL, hS_sR, hS_cpI, hR_sI, hR_sL, hR_cpI, hL_sI, hL_sR, hL_cpI, hI_sL, hI_sR, hN_sI, hN_sL, hN_sR, hN_cpI, hU_sI, hU_sL, hU_sR, hU_cpI, tn0, tn1, tn2, tn3, tn4, tn5, tn6, tn7, tn8, tn9, tn10, tn11, tn12, tn13, tn14, tn15, tn16, tn17, tn18, tn19, tn20, tn21, tn22, tn23, tn24, tn25, tn26, tn27, tn28, tn29, tn30, tn31, tn32, tn33, tn34, tn35, tn36, tn37, tn38, tn39, tn40, tn41, tn42, tn43, tn44, tn45, tn46, tn47, tn48, tn49, tn50, tn51, tn52, tn53, tn54, tn55, tn56, tn57, tn58, tn59, tn60, lH_eq, true_and, and_true, h0, h9, h11, twq_0 x1, hiq_0 x2.1, x2.2.2.1, cI_ge (show nw + 1 < 1000 by omega) (show nw < 1000 by omega)]
        exact ⟨fun _ => ⟨f.2.2.1, f.2.2.2.1, kk h1 f q1 q2⟩, fun z => absurd (Nat.lt_succ_self nw) z⟩
      | succ n ih =>
        intro i h1 hi f q1 q2
        have fB := f.mono (T := GB g) (fun c z => Gk_GB z)
        have H1 := H.fr fB
        have dis := faM_mom (k := k) H
        have HN1 : MomIs h1 (faM g t k) nr nw N := HN.fr b1 b2 f (fun c z1 z2 z => by
          have hh := H.2.2.2.2.1
          unfold Gk at z
          unfold faM at z1 z2
          split at z1 <;> split at z2 <;> omega)
        have HMk := mom3 H1 (show k < 3 by omega)
        have HC1 := H1
        have cN := H1.2.1.1
        obtain ⟨⟨h0, h1', -, -, -, h5, -, -, -, h9, h10, h11⟩, ⟨-, -, -, -, c5, -⟩, ⟨x1, x2, -, -⟩, -⟩ := H1
        have ed : hI h1 (faM g t k) 0 = N 0 0 := HN1.2.1.1
        refine wX0_tryRows_54 (by omega) g (nI r) (nI k) (nI days) _ _ (cI i) ?_
        simp only [rt_i, rt_b0, rt_b1, rt_v, rt_l, rt_o, rt_a, rV_none, rI_some, rL_some, rR_some, rT_some, rt_bI, hIf_sL, hIf_sR, hS_sI, hS_sL, hS_sR, hS_cpI, hR_sI, hR_sL, hR_cpI, hL_sI, hL_sR, hL_cpI, hI_sL, hI_sR, hN_sI, hN_sL, hN_sR, hN_cpI, hU_sI, hU_sL, hU_sR, hU_cpI, tn0, tn1, tn2, tn3, tn4, tn5, tn6, tn7, tn8, tn9, tn10, tn11, tn12, tn13, tn14, tn15, tn16, tn17, tn18, tn19, tn20, tn21, tn22, tn23, tn24, tn25, tn26, tn27, tn28, tn29, tn30, tn31, tn32, tn33, tn34, tn35, tn36, tn37, tn38, tn39, tn40, tn41, tn42, tn43, tn44, tn45, tn46, tn47, tn48, tn49, tn50, tn51, tn52, tn53, tn54, tn55, tn56, tn57, tn58, tn59, tn60, lH_eq, true_and, and_true, h0, h9, h11, twq_0 x1, hiq_0 x2.1, x2.2.2.1, cI_ge (show i < 1000 by omega) (show nw < 1000 by omega), moq_0 HN1.1, ed]
        refine ⟨fun z => absurd z (by omega), fun _ => ?_⟩
        refine sp_mayRunFor (by omega) g t a ru nr nw i A M R (N 0 0) HC1 (by omega) ?_
        simp only [rI_some, bI0, moq_0 HMk, true_and, cI_up]
        have hl : ∀ s', lpF (fun i s => if mrB A (N 0 0) i = true then trF R A nr nw r rem (k + 1) (paF R A nr nw (od1 r i) N) (upd ch k (cI i)) s else s) (i + 1) s' = if mrB A (N 0 0) i = true then trF R A nr nw r rem (k + 1) (paF R A nr nw (od1 r i) N) (upd ch k (cI i)) (lpF (fun i s => if mrB A (N 0 0) i = true then trF R A nr nw r rem (k + 1) (paF R A nr nw (od1 r i) N) (upd ch k (cI i)) s else s) i s') else lpF (fun i s => if mrB A (N 0 0) i = true then trF R A nr nw r rem (k + 1) (paF R A nr nw (od1 r i) N) (upd ch k (cI i)) s else s) i s' := fun _ => rfl
        refine ⟨fun z => ?_, fun z => ?_⟩
        · refine ih (i + 1) h1 (by omega) f q1 ?_
          rw [hl, if_neg z]
          exact q2
        · have z := Decidable.not_not.mp z
          refine sp_become (by omega) (g + 6 + 6 * k) (faM g t k) HMk HN1.1 (dis.2 k (Nat.le_refl k) (by omega)).symm (fun h2 f2 p0 p1 p2 => ?_)
          have HN2 : MomIs h2 (g + 6 + 6 * k) nr nw N := HN1.of b1 b2 (HMk.fr f2) p0 p1 p2
          simp only [rV_none, rt_i, rt_b0, rt_b1, rt_v, rt_l, rt_o, rt_a, rV_none, rI_some, rL_some, rR_some, rT_some, rt_bI, hIf_sL, hIf_sR, hS_sI, hS_sL, hS_sR, hS_cpI, hR_sI, hR_sL, hR_cpI, hL_sI, hL_sR, hL_cpI, hI_sL, hI_sR, hN_sI, hN_sL, hN_sR, hN_cpI, hU_sI, hU_sL, hU_sR, hU_cpI, tn0, tn1, tn2, tn3, tn4, tn5, tn6, tn7, tn8, tn9, tn10, tn11, tn12, tn13, tn14, tn15, tn16, tn17, tn18, tn19, tn20, tn21, tn22, tn23, tn24, tn25, tn26, tn27, tn28, tn29, tn30, tn31, tn32, tn33, tn34, tn35, tn36, tn37, tn38, tn39, tn40, tn41, tn42, tn43, tn44, tn45, tn46, tn47, tn48, tn49, tn50, tn51, tn52, tn53, tn54, tn55, tn56, tn57, tn58, tn59, tn60, lH_eq, true_and, and_true, f2.1, f2.2.1, h0, h1', h9, h10, h11, twq_0 x1, coq_0 cN, coq_1 cN, coq_2 cN, coq_3 cN, coq_4 cN, coq_5 cN, coq_6 cN, coq_7 cN, coq_8 cN, vp_in_nI (show r < 5 by omega) (show 5 < 2 ^ 31 by omega), nI_clamp (show r < 2 ^ 31 by omega)]
          have f3 : Fr' h2 (sI h2 (g + 1 + 1) r (cI i)) (fun c => c = g + 2) := Fr'.sI (by omega)
          have f2k := f2.mono (T := Gk g k) (fun c z => by unfold mS at z; unfold Gk; omega)
          have f3k := f3.mono (T := Gk g k) (fun c z => by unfold Gk; omega)
          have f23 := f2k.trans f3k
          have HC3 := HC1.fr (f23.mono (fun c z => Gk_GB z))
          have HN3 := HN2.fr b1 b2 f3 (fun c z1 z2 z => by omega)
          have q21 : ∀ j, j < 5 → j ≠ r → hI (sI h2 (g + 1 + 1) r (cI i)) (g + 2) j = -2 := fun j hj hn => by
            rw [hI_sI, if_pos (by omega), if_neg hn, f2.2.2.2.2.1 (g + 2) (by unfold mS; omega)]
            exact q2.1 j hj hn
          refine cc_pass (by omega) g t a ru nr nw r i (g + 6 + 6 * k) A M N R HC3 HN3 (by omega) (by omega) hr (fun j hj => q21 j (by omega)) (by rw [hI_sI, if_pos (by omega), if_pos rfl]) (fun h4 v f4 m4 => ?_)
          have f4k := f4.mono (T := Gk g k) (fun c z => by unfold mS at z; unfold Gk; omega)
          have f234 := f23.trans f4k
          simp only [rI_some, rt_i, rt_b0, rt_b1, rt_v, rt_l, rt_o, rt_a, rV_none, rI_some, rL_some, rR_some, rT_some, rt_bI, hIf_sL, hIf_sR, hS_sI, hS_sL, hS_sR, hS_cpI, hR_sI, hR_sL, hR_cpI, hL_sI, hL_sR, hL_cpI, hI_sL, hI_sR, hN_sI, hN_sL, hN_sR, hN_cpI, hU_sI, hU_sL, hU_sR, hU_cpI, tn0, tn1, tn2, tn3, tn4, tn5, tn6, tn7, tn8, tn9, tn10, tn11, tn12, tn13, tn14, tn15, tn16, tn17, tn18, tn19, tn20, tn21, tn22, tn23, tn24, tn25, tn26, tn27, tn28, tn29, tn30, tn31, tn32, tn33, tn34, tn35, tn36, tn37, tn38, tn39, tn40, tn41, tn42, tn43, tn44, tn45, tn46, tn47, tn48, tn49, tn50, tn51, tn52, tn53, tn54, tn55, tn56, tn57, tn58, tn59, tn60, lH_eq, true_and, and_true, f4.1, f4.2.1, f2.1, f2.2.1, h0, h5, c5, vp_in_nI (show k < 3 by omega) (show 3 < 2 ^ 31 by omega), nI_clamp (show k < 2 ^ 31 by omega)]
          have f5 : Fr' h4 (sI h4 (g + 24) k (cI i)) (fun c => c = g + 24) := Fr'.sI rfl
          have f5k := f5.mono (T := Gk g k) (fun c z => by unfold Gk; omega)
          have fA := f234.trans f5k
          have HC5 := HC1.fr (fA.mono (fun c z => Gk_GB z))
          have m5 := m4.fr b1 b2 f5 (fun c z1 z2 z => by omega)
          have efa : g + 6 + 6 * k = faM g t (k + 1) := by unfold faM; rw [if_neg (by omega)]; omega
          have hch5 : ∀ j, j < k + 1 → hI (sI h4 (g + 24) k (cI i)) (g + 24) j = upd ch k (cI i) j := fun j hj => by
            rw [hI_sI, if_pos rfl]
            unfold upd
            by_cases c : j = k
            · rw [if_pos c, if_pos c]
            · rw [if_neg c, if_neg c, f4.2.2.2.2.1 (g + 24) (by unfold mS; omega), f3.2.2.2.2.1 (g + 24) (by omega), f2.2.2.2.2.1 (g + 24) (by unfold mS; omega), q1 j (by omega)]
              exact hch j (by omega)
          have HS5 : TrS (sI h4 (g + 24) k (cI i)) g r nr days (lpF (fun i s => if mrB A (N 0 0) i = true then trF R A nr nw r rem (k + 1) (paF R A nr nw (od1 r i) N) (upd ch k (cI i)) s else s) i s) := by
            refine ⟨fun j hj hn => ?_, ?_, fun j hj => ?_⟩
            · rw [hI_sI, if_neg (by omega), f4.2.2.2.2.1 (g + 2) (by unfold mS; omega)]; exact q21 j hj hn
            · rw [hI_sI, if_neg (by omega), f4.2.2.2.2.1 g (by unfold mS; omega), f3.2.2.2.2.1 g (by omega), f2.2.2.2.2.1 g (by unfold mS; omega)]; exact q2.2.1
            · rw [hI_sI, if_neg (by omega), f4.2.2.2.2.1 (g + 25) (by unfold mS; omega), f3.2.2.2.2.1 (g + 25) (by omega), f2.2.2.2.2.1 (g + 25) (by unfold mS; omega)]; exact q2.2.2 j hj
          rw [nI_1, efa]
          rw [efa] at m5
          refine tr_main hd0 g t a ru nr nw r days A M R hd3 hr rem (k + 1) e (paF R A nr nw (od1 r i) N) (upd ch k (cI i)) _ (by omega) (by omega) HC5 m5 HS5 hch5 (fun h6 f6 q6 q7 => ?_)
          have f6k := f6.mono (T := Gk g k) (fun c z => by unfold Gk at z ⊢; omega)
          rw [rV_none, ← efa]
          refine ih (i + 1) h6 (by omega) ((f.trans fA).trans f6k) (fun j hj => ?_) ?_
          · rw [q6 j (by omega), hI_sI, if_pos rfl, if_neg (by omega), f4.2.2.2.2.1 (g + 24) (by unfold mS; omega), f3.2.2.2.2.1 (g + 24) (by omega), f2.2.2.2.2.1 (g + 24) (by unfold mS; omega)]
            exact q1 j hj
          · rw [hl, if_pos z]
            exact q7
    have go := loop (nw + 1) 0 h (by omega) (Fr'.refl _ _) (fun _ _ => rfl) HS
    rw [cI_0] at go
    obtain ⟨⟨h0, h1, h2, h3, h4, -⟩, -⟩ := H
    refine wX0_tryRows (by omega) g (nI r) (nI k) (nI days) (faM g t k) ?_
    have k3 : (nI k < 3) = (k < 3) := nI_lt_iff (b := 3) (by omega) (by decide)
    have k0 : (nI k = 0) = (k = 0) := nI_eq_iff (b := 0) (by omega) (by decide)
    have k1 : (nI k = 1) = (k = 1) := nI_eq_iff (b := 1) (by omega) (by decide)
    simp only [nI_le_iff (show days < 2 ^ 31 by omega) (show k < 2 ^ 31 by omega), k3, k0, k1, h0, h2, h3, h4, true_and]
    refine ⟨fun z => absurd z (by omega), fun _ => ⟨fun _ => ⟨fun z => ⟨fun y => ?_, fun y => ?_⟩, fun z => ?_⟩, fun z => absurd (by omega) z⟩⟩
    · have : k = 2 := by omega
      subst this
      exact go
    · subst y
      exact go
    · subst z
      exact go
