theorem c_had {pz : PZT} {d : Nat} {h : AH} {Q : Option Value → AH → Prop} (hd : 13 ≤ d) (x nr nw : Nat) (A M : PC) (fo y : Int32) (ps : List PC) (ns : List (Nat × Nat × Int32)) (cls : List (List (List (Nat × Nat) × List (Nat × Nat)))) (tp : List Int32) (im : Nat → Option TW) (q n b w : Int32) (H : CW pz h x ((nr, nw, A, fo, y, M, ps, ns), cls, tp, im)) (ok : wsOk ((nr, nw, A, fo, y, M, ps, ns), cls, tp, im)) (k : ∀ h', CW pz h' x ((nr, nw, A, fo, y, M, ps, ns), cls, tp, im) → hN h' = hN h → hU h' = hU h → Q (some (.int (aHad nr nw A M (foR cls fo) q n b w))) h') : Calls d nX11_had [.ref x, .int q, .int n, .int b, .int w] h (hN h) (hU h) Q := by
  obtain ⟨e, rfl⟩ : ∃ e, d = e + 1 := ⟨d - 1, by omega⟩
  obtain ⟨s0, p4, T0, HH, HM, b1, b2⟩ := H.un
  have p7 : hR h x 7 = x + 25 := H.1.2.2.2.2.2.2.2.2.1
  have bad : ¬ ((0 ≤ q ∧ q < nI nr) ∧ (1 ≤ n ∧ n ≤ 20) ∧ (0 ≤ b ∧ b < nI nw) ∧ (0 ≤ w ∧ w ≤ 1)) → Q (some (.int (-1001))) h := fun z => by
    have := k h H rfl rfl
    unfold aHad at this
    rwa [if_neg z] at this
  refine wX11_had (by omega) x q n b w ?_
  simp only [rt_i, rt_b0, rt_b1, rt_v, rt_l, rt_o, rt_a, rV_none, rI_some, rL_some, rR_some, rT_some, rt_bI, hIf_sL, hIf_sR, hS_sI, hS_sL, hS_sR, hS_cpI, hR_sI, hR_sL, hR_cpI, hL_sI, hL_sR, hL_cpI, hI_sL, hI_sR, hN_sI, hN_sL, hN_sR, hN_cpI, hU_sI, hU_sL, hU_sR, hU_cpI, tn0, tn1, tn2, tn3, tn4, tn5, tn6, tn7, tn8, tn9, tn10, tn11, tn12, tn13, tn14, tn15, tn16, tn17, tn18, tn19, tn20, tn21, tn22, tn23, tn24, tn25, tn26, tn27, tn28, tn29, tn30, tn31, tn32, tn33, tn34, tn35, tn36, tn37, tn38, tn39, tn40, tn41, tn42, tn43, tn44, tn45, tn46, tn47, tn48, tn49, tn50, tn51, tn52, tn53, tn54, tn55, tn56, tn57, tn58, tn59, tn60, lH_eq, true_and, and_true, s0, p4, p7, twq_0 T0]
  refine sp_hasRunner (by omega) (x + 8) nr nw A q T0 HH ?_
  simp only [rI_some, bI0, s0, p4, twq_0 T0, true_and]
  refine ⟨fun z => ⟨fun _ => bad (fun c => z c.1), fun y => absurd trivial y⟩, fun z => ?_⟩
  have z := Decidable.not_not.mp z
  refine sp_hasWare (by omega) (x + 8) nr nw A b T0 HH ?_
  simp only [rI_some, bI0]
  refine ⟨fun u => ⟨fun _ => ⟨trivial, trivial, bad (fun c => u c.2.2.1)⟩, fun y => absurd trivial y⟩, fun u => ⟨fun y => absurd y (by decide), fun _ => ?_⟩⟩
  have u := Decidable.not_not.mp u
  refine sp_isWithin (by omega) n 1 20 ?_
  simp only [rI_some, bI0]
  refine ⟨fun v => ⟨trivial, trivial, bad (fun c => v c.2.1)⟩, fun v => ?_⟩
  have v := Decidable.not_not.mp v
  refine sp_isWithin (by omega) w 0 1 ?_
  simp only [rI_some, bI0, s0, p4, p7, true_and]
  refine ⟨fun t => ?_, fun t => bad (fun c => t c.2.2.2)⟩
  have t := Decidable.not_not.mp t
  unfold aHad at k
  rw [if_pos ⟨z, v, u, t⟩] at k
  obtain ⟨r, hr, rfl⟩ := rn_of (by omega) z
  obtain ⟨n, hn1, hn2, rfl⟩ := rg1_of (n := 20) rfl (by decide) v
  obtain ⟨b, hb, rfl⟩ := rn_of (by omega) u
  rw [nI_clamp (by omega), nI_clamp (by omega), nI_clamp (by omega)] at k
  have hh := H.hill ok (Or.inl (by omega))
  refine c_ask (by omega) x nr nw A M fo y ps ns cls tp im H ok hh.1 (fun ru h1 e1 e2 C1 F1 M1 => ?_)
  have p71 : hR h1 x 7 = x + 25 := C1.1.2.2.2.2.2.2.2.2.1
  simp only [rV_none, C1.1.2.1, p71, F1.1.1, true_and]
  refine ⟨fun s => ?_, fun s => ?_⟩
  · have hw : w = 0 := by
      obtain ⟨j, hj, rfl⟩ := rg_of (n := 1) rfl (by decide) t
      have : j = 0 ∨ j = 1 := by omega
      rcases this with rfl | rfl
      · rfl
      · exact absurd rfl s
    subst hw
    refine sp_pursesThatGet (by omega) (x + 25) (x + 8) _ ru nr nw r n b A M _ 0 hn2 hr hb F1 (fun h2 f2 => ?_)
    simp only [rI_some, rt_i, rt_b0, rt_b1, rt_v, rt_l, rt_o, rt_a, rV_none, rI_some, rL_some, rR_some, rT_some, rt_bI, hIf_sL, hIf_sR, hS_sI, hS_sL, hS_sR, hS_cpI, hR_sI, hR_sL, hR_cpI, hL_sI, hL_sR, hL_cpI, hI_sL, hI_sR, hN_sI, hN_sL, hN_sR, hN_cpI, hU_sI, hU_sL, hU_sR, hU_cpI, tn0, tn1, tn2, tn3, tn4, tn5, tn6, tn7, tn8, tn9, tn10, tn11, tn12, tn13, tn14, tn15, tn16, tn17, tn18, tn19, tn20, tn21, tn22, tn23, tn24, tn25, tn26, tn27, tn28, tn29, tn30, tn31, tn32, tn33, tn34, tn35, tn36, tn37, tn38, tn39, tn40, tn41, tn42, tn43, tn44, tn45, tn46, tn47, tn48, tn49, tn50, tn51, tn52, tn53, tn54, tn55, tn56, tn57, tn58, tn59, tn60, lH_eq, true_and, and_true]
    exact ⟨f2.2.2.1.trans e1, f2.2.2.2.1.trans e2, k h2 (C1.fb f2) (f2.2.2.1.trans e1) (f2.2.2.2.1.trans e2)⟩
  · subst s
    refine sp_pursesThatGet (by omega) (x + 25) (x + 8) _ ru nr nw r n b A M _ 1 hn2 hr hb F1 (fun h2 f2 => ?_)
    simp only [rI_some, rt_i, rt_b0, rt_b1, rt_v, rt_l, rt_o, rt_a, rV_none, rI_some, rL_some, rR_some, rT_some, rt_bI, hIf_sL, hIf_sR, hS_sI, hS_sL, hS_sR, hS_cpI, hR_sI, hR_sL, hR_cpI, hL_sI, hL_sR, hL_cpI, hI_sL, hI_sR, hN_sI, hN_sL, hN_sR, hN_cpI, hU_sI, hU_sL, hU_sR, hU_cpI, tn0, tn1, tn2, tn3, tn4, tn5, tn6, tn7, tn8, tn9, tn10, tn11, tn12, tn13, tn14, tn15, tn16, tn17, tn18, tn19, tn20, tn21, tn22, tn23, tn24, tn25, tn26, tn27, tn28, tn29, tn30, tn31, tn32, tn33, tn34, tn35, tn36, tn37, tn38, tn39, tn40, tn41, tn42, tn43, tn44, tn45, tn46, tn47, tn48, tn49, tn50, tn51, tn52, tn53, tn54, tn55, tn56, tn57, tn58, tn59, tn60, lH_eq, true_and, and_true]
    exact ⟨f2.2.2.1.trans e1, f2.2.2.2.1.trans e2, k h2 (C1.fb f2) (f2.2.2.1.trans e1) (f2.2.2.2.1.trans e2)⟩
