theorem c_falls {pz : PZT} {d : Nat} {h : AH} {Q : Option Value → AH → Prop} {dr : Nat → Nat} (hdr : DrOk dr) (hd : 13 ≤ d) (x nr nw y : Nat) (A M : PC) (fo : Int32) (ps : List PC) (ns : List (Nat × Nat × Int32)) (cls : List (List (List (Nat × Nat) × List (Nat × Nat)))) (tp : List Int32) (im : Nat → Option TW) (a b c w : Int32) (hy : y < 2 ^ 31) (H : CW pz h x ((nr, nw, A, fo, nI y, M, ps, ns), cls, tp, im)) (ok : wsOk ((nr, nw, A, fo, nI y, M, ps, ns), cls, tp, im)) (k : ∀ h', CW pz h' x ((nr, nw, A, fo, nI y, M, ps, ns), cls, tp, im) → hN h' = hN h → hU h' = hU h → Q (some (.int (aFalls dr nr nw A M (foR cls fo) y a b c w))) h') : Calls d nX11_falls [.ref x, .int a, .int b, .int c, .int w] h (hN h) (hU h) Q := by
  obtain ⟨e, rfl⟩ : ∃ e, d = e + 1 := ⟨d - 1, by omega⟩
  obtain ⟨s0, p4, T0, HH, HM, b1, b2⟩ := H.un
  have p7 : hR h x 7 = x + 25 := H.1.2.2.2.2.2.2.2.2.1
  have bad : ¬ (0 < A 0 0 ∧ (1 ≤ a ∧ a ≤ 10) ∧ (1 ≤ b ∧ b ≤ 60) ∧ (0 ≤ c ∧ c ≤ 100) ∧ (0 ≤ w ∧ w ≤ 1)) → Q (some (.int (-1))) h := fun z => by
    have := k h H rfl rfl
    unfold aFalls at this
    rwa [if_neg z] at this
  refine wX11_falls (by omega) x a b c w ?_
  refine sp_isWithin (by omega) a 1 10 ?_
  simp only [rI_some, bI0, rt_i, rt_b0, rt_b1, rt_v, rt_l, rt_o, rt_a, rV_none, rI_some, rL_some, rR_some, rT_some, rt_bI, hIf_sL, hIf_sR, hS_sI, hS_sL, hS_sR, hS_cpI, hR_sI, hR_sL, hR_cpI, hL_sI, hL_sR, hL_cpI, hI_sL, hI_sR, hN_sI, hN_sL, hN_sR, hN_cpI, hU_sI, hU_sL, hU_sR, hU_cpI, tn0, tn1, tn2, tn3, tn4, tn5, tn6, tn7, tn8, tn9, tn10, tn11, tn12, tn13, tn14, tn15, tn16, tn17, tn18, tn19, tn20, tn21, tn22, tn23, tn24, tn25, tn26, tn27, tn28, tn29, tn30, tn31, tn32, tn33, tn34, tn35, tn36, tn37, tn38, tn39, tn40, tn41, tn42, tn43, tn44, tn45, tn46, tn47, tn48, tn49, tn50, tn51, tn52, tn53, tn54, tn55, tn56, tn57, tn58, tn59, tn60, lH_eq, true_and, and_true, s0, p4, twq_0 T0]
  refine ⟨fun z => ⟨fun _ => bad (fun t => z t.2.1), fun _ => ⟨fun _ => bad (fun t => z t.2.1), fun y => absurd trivial y⟩⟩, fun z => ?_⟩
  have z := Decidable.not_not.mp z
  refine sp_isWithin (by omega) b 1 60 ?_
  simp only [rI_some, bI0, rt_i, rt_b0, rt_b1, rt_v, rt_l, rt_o, rt_a, rV_none, rI_some, rL_some, rR_some, rT_some, rt_bI, hIf_sL, hIf_sR, hS_sI, hS_sL, hS_sR, hS_cpI, hR_sI, hR_sL, hR_cpI, hL_sI, hL_sR, hL_cpI, hI_sL, hI_sR, hN_sI, hN_sL, hN_sR, hN_cpI, hU_sI, hU_sL, hU_sR, hU_cpI, tn0, tn1, tn2, tn3, tn4, tn5, tn6, tn7, tn8, tn9, tn10, tn11, tn12, tn13, tn14, tn15, tn16, tn17, tn18, tn19, tn20, tn21, tn22, tn23, tn24, tn25, tn26, tn27, tn28, tn29, tn30, tn31, tn32, tn33, tn34, tn35, tn36, tn37, tn38, tn39, tn40, tn41, tn42, tn43, tn44, tn45, tn46, tn47, tn48, tn49, tn50, tn51, tn52, tn53, tn54, tn55, tn56, tn57, tn58, tn59, tn60, lH_eq, true_and, and_true, s0, p4, twq_0 T0]
  refine ⟨fun u => ⟨fun _ => bad (fun t => u t.2.2.1), fun _ => ⟨fun _ => bad (fun t => u t.2.2.1), fun y => absurd trivial y⟩⟩, fun u => ?_⟩
  have u := Decidable.not_not.mp u
  refine sp_isWithin (by omega) c 0 100 ?_
  simp only [rI_some, bI0, rt_i, rt_b0, rt_b1, rt_v, rt_l, rt_o, rt_a, rV_none, rI_some, rL_some, rR_some, rT_some, rt_bI, hIf_sL, hIf_sR, hS_sI, hS_sL, hS_sR, hS_cpI, hR_sI, hR_sL, hR_cpI, hL_sI, hL_sR, hL_cpI, hI_sL, hI_sR, hN_sI, hN_sL, hN_sR, hN_cpI, hU_sI, hU_sL, hU_sR, hU_cpI, tn0, tn1, tn2, tn3, tn4, tn5, tn6, tn7, tn8, tn9, tn10, tn11, tn12, tn13, tn14, tn15, tn16, tn17, tn18, tn19, tn20, tn21, tn22, tn23, tn24, tn25, tn26, tn27, tn28, tn29, tn30, tn31, tn32, tn33, tn34, tn35, tn36, tn37, tn38, tn39, tn40, tn41, tn42, tn43, tn44, tn45, tn46, tn47, tn48, tn49, tn50, tn51, tn52, tn53, tn54, tn55, tn56, tn57, tn58, tn59, tn60, lH_eq, true_and, and_true, s0, p4, twq_0 T0]
  refine ⟨fun v => ⟨fun _ => bad (fun t => v t.2.2.2.1), fun _ => ⟨fun _ => bad (fun t => v t.2.2.2.1), fun y => absurd trivial y⟩⟩, fun v => ⟨fun r => bad (fun t => ?_), fun r => ⟨fun y => absurd y (by decide), fun _ => ?_⟩⟩⟩
  · rcases HH with ⟨-, -, -, c4⟩ | ⟨c1, -⟩
    · rw [c4] at t
      exact absurd t.1 (by decide)
    · exact c1 r
  have v := Decidable.not_not.mp v
  have hp : 0 < A 0 0 := (H.2.1.2.1 r).2
  refine sp_isWithin (by omega) w 0 1 ?_
  simp only [rI_some, bI0, s0, p4, p7, true_and]
  refine ⟨fun t => ?_, fun t => bad (fun q => t q.2.2.2.2)⟩
  have t := Decidable.not_not.mp t
  unfold aFalls at k
  rw [if_pos ⟨hp, z, u, v, t⟩] at k
  obtain ⟨a, ha1, ha2, rfl⟩ := rg1_of (n := 10) rfl (by decide) z
  obtain ⟨b, hb1, hb2, rfl⟩ := rg1_of (n := 60) rfl (by decide) u
  obtain ⟨c, hc, rfl⟩ := rg_of (n := 100) rfl (by decide) v
  rw [nI_clamp (by omega), nI_clamp (by omega), nI_clamp (by omega)] at k
  refine c_ask (by omega) x nr nw A M fo (nI y) ps ns cls tp im H ok r (fun ru h1 e1 e2 C1 F1 M1 => ?_)
  have p71 : hR h1 x 7 = x + 25 := C1.1.2.2.2.2.2.2.2.2.1
  have i2 : hI h1 (x + 8) 2 = nI y := C1.2.1.1.2.2.2.1.2.1
  simp only [rV_none, C1.1.2.1, p71, F1.1.1, true_and]
  refine ⟨fun s => ?_, fun s => ?_⟩
  · have hw : w = 0 := by
      obtain ⟨j, hj, rfl⟩ := rg_of (n := 1) rfl (by decide) t
      have : j = 0 ∨ j = 1 := by omega
      rcases this with rfl | rfl
      · rfl
      · exact absurd rfl s
    subst hw
    refine sp_drawFalls hdr (by omega) (x + 25) (x + 8) _ ru nr nw c b a y A M _ 0 hc hb2 ha2 hy F1 i2 (fun h2 f2 => ?_)
    simp only [rI_some, rt_i, rt_b0, rt_b1, rt_v, rt_l, rt_o, rt_a, rV_none, rI_some, rL_some, rR_some, rT_some, rt_bI, hIf_sL, hIf_sR, hS_sI, hS_sL, hS_sR, hS_cpI, hR_sI, hR_sL, hR_cpI, hL_sI, hL_sR, hL_cpI, hI_sL, hI_sR, hN_sI, hN_sL, hN_sR, hN_cpI, hU_sI, hU_sL, hU_sR, hU_cpI, tn0, tn1, tn2, tn3, tn4, tn5, tn6, tn7, tn8, tn9, tn10, tn11, tn12, tn13, tn14, tn15, tn16, tn17, tn18, tn19, tn20, tn21, tn22, tn23, tn24, tn25, tn26, tn27, tn28, tn29, tn30, tn31, tn32, tn33, tn34, tn35, tn36, tn37, tn38, tn39, tn40, tn41, tn42, tn43, tn44, tn45, tn46, tn47, tn48, tn49, tn50, tn51, tn52, tn53, tn54, tn55, tn56, tn57, tn58, tn59, tn60, lH_eq, true_and, and_true]
    exact ⟨f2.2.2.1.trans e1, f2.2.2.2.1.trans e2, k h2 (C1.fb f2) (f2.2.2.1.trans e1) (f2.2.2.2.1.trans e2)⟩
  · subst s
    refine sp_drawFalls hdr (by omega) (x + 25) (x + 8) _ ru nr nw c b a y A M _ 1 hc hb2 ha2 hy F1 i2 (fun h2 f2 => ?_)
    simp only [rI_some, rt_i, rt_b0, rt_b1, rt_v, rt_l, rt_o, rt_a, rV_none, rI_some, rL_some, rR_some, rT_some, rt_bI, hIf_sL, hIf_sR, hS_sI, hS_sL, hS_sR, hS_cpI, hR_sI, hR_sL, hR_cpI, hL_sI, hL_sR, hL_cpI, hI_sL, hI_sR, hN_sI, hN_sL, hN_sR, hN_cpI, hU_sI, hU_sL, hU_sR, hU_cpI, tn0, tn1, tn2, tn3, tn4, tn5, tn6, tn7, tn8, tn9, tn10, tn11, tn12, tn13, tn14, tn15, tn16, tn17, tn18, tn19, tn20, tn21, tn22, tn23, tn24, tn25, tn26, tn27, tn28, tn29, tn30, tn31, tn32, tn33, tn34, tn35, tn36, tn37, tn38, tn39, tn40, tn41, tn42, tn43, tn44, tn45, tn46, tn47, tn48, tn49, tn50, tn51, tn52, tn53, tn54, tn55, tn56, tn57, tn58, tn59, tn60, lH_eq, true_and, and_true]
    exact ⟨f2.2.2.1.trans e1, f2.2.2.2.1.trans e2, k h2 (C1.fb f2) (f2.2.2.1.trans e1) (f2.2.2.2.1.trans e2)⟩
