theorem c_lender {pz : PZT} {d : Nat} {h : AH} {Q : Option Value → AH → Prop} (hd : 13 ≤ d) (x nr nw : Nat) (A M : PC) (fo y : Int32) (ps : List PC) (ns : List (Nat × Nat × Int32)) (cls : List (List (List (Nat × Nat) × List (Nat × Nat)))) (tp : List Int32) (im : Nat → Option TW) (q n w : Int32) (H : CW pz h x ((nr, nw, A, fo, y, M, ps, ns), cls, tp, im)) (ok : wsOk ((nr, nw, A, fo, y, M, ps, ns), cls, tp, im)) (k : ∀ h', CW pz h' x ((nr, nw, A, fo, y, M, ps, ns), cls, tp, im) → hN h' = hN h → hU h' = hU h → Q (some (.int (aLender nr nw A M (foR cls fo) q n w))) h') : Calls d nX11_lender [.ref x, .int q, .int n, .int w] h (hN h) (hU h) Q := by
  obtain ⟨e, rfl⟩ : ∃ e, d = e + 1 := ⟨d - 1, by omega⟩
  obtain ⟨s0, p4, T0, HH, HM, b1, b2⟩ := H.un
  have p7 : hR h x 7 = x + 25 := H.1.2.2.2.2.2.2.2.2.1
  unfold aLender at k
  refine wX11_lender (by omega) x q n w ?_
  simp only [rt_i, rt_b0, rt_b1, rt_v, rt_l, rt_o, rt_a, rV_none, rI_some, rL_some, rR_some, rT_some, rt_bI, hIf_sL, hIf_sR, hS_sI, hS_sL, hS_sR, hS_cpI, hR_sI, hR_sL, hR_cpI, hL_sI, hL_sR, hL_cpI, hI_sL, hI_sR, hN_sI, hN_sL, hN_sR, hN_cpI, hU_sI, hU_sL, hU_sR, hU_cpI, tn0, tn1, tn2, tn3, tn4, tn5, tn6, tn7, tn8, tn9, tn10, tn11, tn12, tn13, tn14, tn15, tn16, tn17, tn18, tn19, tn20, tn21, tn22, tn23, tn24, tn25, tn26, tn27, tn28, tn29, tn30, tn31, tn32, tn33, tn34, tn35, tn36, tn37, tn38, tn39, tn40, tn41, tn42, tn43, tn44, tn45, tn46, tn47, tn48, tn49, tn50, tn51, tn52, tn53, tn54, tn55, tn56, tn57, tn58, tn59, tn60, lH_eq, true_and, and_true, s0, p4, p7, twq_0 T0]
  refine sp_hasRunner (by omega) (x + 8) nr nw A q T0 HH ?_
  simp only [rI_some, bI0]
  refine ⟨fun z => ?_, fun z => ?_⟩
  · have := k h H rfl rfl
    rw [if_neg (fun c => z c.1)] at this
    exact ⟨trivial, trivial, this⟩
  have z := Decidable.not_not.mp z
  refine sp_isWithin (by omega) n 1 60 ?_
  simp only [rI_some, bI0]
  refine ⟨fun u => ?_, fun u => ?_⟩
  · have := k h H rfl rfl
    rw [if_neg (fun c => u c.2.1)] at this
    exact ⟨trivial, trivial, this⟩
  have u := Decidable.not_not.mp u
  refine sp_isWithin (by omega) w 0 1 ?_
  simp only [rI_some, bI0, s0, p4, p7, true_and]
  refine ⟨fun v => ?_, fun v => ?_⟩
  · have v := Decidable.not_not.mp v
    rw [if_pos ⟨z, u, v⟩] at k
    obtain ⟨r, hr, rfl⟩ := rn_of (by omega) z
    obtain ⟨n, hn1, hn2, rfl⟩ := rg1_of (n := 60) rfl (by decide) u
    rw [nI_clamp (by omega), nI_clamp (by omega)] at k
    have hh := H.hill ok (Or.inl (by omega))
    refine c_ask (by omega) x nr nw A M fo y ps ns cls tp im H ok hh.1 (fun ru h1 e1 e2 C1 F1 M1 => ?_)
    have p71 : hR h1 x 7 = x + 25 := C1.1.2.2.2.2.2.2.2.2.1
    simp only [rV_none, C1.1.2.1, p71, F1.1.1, true_and]
    refine ⟨fun t => ?_, fun t => ?_⟩
    · have hw : w = 0 := by
        obtain ⟨j, hj, rfl⟩ := rg_of (n := 1) rfl (by decide) v
        have : j = 0 ∨ j = 1 := by omega
        rcases this with rfl | rfl
        · rfl
        · exact absurd rfl t
      subst hw
      refine sp_bestLender (by omega) (x + 25) (x + 8) _ ru nr nw r n A M _ 0 hn2 hr F1 M1 (fun h2 f2 => ?_)
      simp only [rI_some, rt_i, rt_b0, rt_b1, rt_v, rt_l, rt_o, rt_a, rV_none, rI_some, rL_some, rR_some, rT_some, rt_bI, hIf_sL, hIf_sR, hS_sI, hS_sL, hS_sR, hS_cpI, hR_sI, hR_sL, hR_cpI, hL_sI, hL_sR, hL_cpI, hI_sL, hI_sR, hN_sI, hN_sL, hN_sR, hN_cpI, hU_sI, hU_sL, hU_sR, hU_cpI, tn0, tn1, tn2, tn3, tn4, tn5, tn6, tn7, tn8, tn9, tn10, tn11, tn12, tn13, tn14, tn15, tn16, tn17, tn18, tn19, tn20, tn21, tn22, tn23, tn24, tn25, tn26, tn27, tn28, tn29, tn30, tn31, tn32, tn33, tn34, tn35, tn36, tn37, tn38, tn39, tn40, tn41, tn42, tn43, tn44, tn45, tn46, tn47, tn48, tn49, tn50, tn51, tn52, tn53, tn54, tn55, tn56, tn57, tn58, tn59, tn60, lH_eq, true_and, and_true]
      exact ⟨f2.2.2.1.trans e1, f2.2.2.2.1.trans e2, k h2 (C1.fb f2) (f2.2.2.1.trans e1) (f2.2.2.2.1.trans e2)⟩
    · subst t
      refine sp_bestLender (by omega) (x + 25) (x + 8) _ ru nr nw r n A M _ 1 hn2 hr F1 M1 (fun h2 f2 => ?_)
      simp only [rI_some, rt_i, rt_b0, rt_b1, rt_v, rt_l, rt_o, rt_a, rV_none, rI_some, rL_some, rR_some, rT_some, rt_bI, hIf_sL, hIf_sR, hS_sI, hS_sL, hS_sR, hS_cpI, hR_sI, hR_sL, hR_cpI, hL_sI, hL_sR, hL_cpI, hI_sL, hI_sR, hN_sI, hN_sL, hN_sR, hN_cpI, hU_sI, hU_sL, hU_sR, hU_cpI, tn0, tn1, tn2, tn3, tn4, tn5, tn6, tn7, tn8, tn9, tn10, tn11, tn12, tn13, tn14, tn15, tn16, tn17, tn18, tn19, tn20, tn21, tn22, tn23, tn24, tn25, tn26, tn27, tn28, tn29, tn30, tn31, tn32, tn33, tn34, tn35, tn36, tn37, tn38, tn39, tn40, tn41, tn42, tn43, tn44, tn45, tn46, tn47, tn48, tn49, tn50, tn51, tn52, tn53, tn54, tn55, tn56, tn57, tn58, tn59, tn60, lH_eq, true_and, and_true]
      exact ⟨f2.2.2.1.trans e1, f2.2.2.2.1.trans e2, k h2 (C1.fb f2) (f2.2.2.1.trans e1) (f2.2.2.2.1.trans e2)⟩
  · have := k h H rfl rfl
    rw [if_neg (fun c => v c.2.2)] at this
    exact this
