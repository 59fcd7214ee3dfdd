theorem CW.vb {pz : PZT} {h h' : AH} {x : Nat} {W : WS} (H : CW pz h x W) (f : Fr' h h' (VB (x + 79))) : CW pz h' x W := by
  have n1 : ∀ k, k = 21 ∨ k = 27 ∨ k = 39 ∨ k = 81 ∨ k = 100 → ¬ VB (x + 79) (x + k) := fun k hk => by unfold VB; omega
  have hs := H.scr
  exact H.frs (FrG.of f) (fun c z => by unfold VB at z; omega) (hs.fr f (fun j hj => by rw [f.2.2.2.2.1 (x + 21) (n1 21 (by decide))]; exact hs.1.2 j hj) (fun j hj => by rw [f.2.2.2.2.1 (x + 27) (n1 27 (by decide))]; exact hs.2.1.2.2.2.2.2 j hj) (fun j hj => by rw [f.2.2.2.2.1 (x + 39) (n1 39 (by decide))]; exact hs.2.2.1.2.2 j hj) (fun j hj => by rw [f.2.2.2.2.1 (x + 81) (n1 81 (by decide))]; exact hs.2.2.2.1.2.2.2.2.2 j hj) (by rw [f.2.2.2.2.1 (x + 100) (n1 100 (by decide))]; exact hs.2.2.2.2.2.2.2))
theorem CW.vc {pz : PZT} {h : AH} {x nr nw : Nat} {A M : PC} {fo y : Int32} {ps : List PC} {ns : List (Nat × Nat × Int32)} {cls : List (List (List (Nat × Nat) × List (Nat × Nat)))} {tp : List Int32} {im : Nat → Option TW} (H : CW pz h x ((nr, nw, A, fo, y, M, ps, ns), cls, tp, im)) (ok : wsOk ((nr, nw, A, fo, y, M, ps, ns), cls, tp, im)) (ha : hR h (x + 8) 0 ≠ 0) : VC h (x + 79) (x + 8) (hR h (x + 8) 0) nr nw A ns := by
  obtain ⟨s0, p4, T0, HH, HM, b1, b2⟩ := H.un
  have hd := (H.2.1.2.1 ha).1
  have i4 : hI h (x + 8) 9 = nI ns.length := H.2.1.1.2.2.2.1.2.2.2
  have h7 := H.2.1.1.2.2.2.2.2.2.2
  obtain ⟨⟨q1, q2, q3, q4⟩, q5, q6, q7, q8, q9⟩ := H.scr.2.2.2.1
  rcases HH with ⟨c1, -⟩ | ⟨c1, c2⟩
  · exact absurd c1 ha
  exact ⟨⟨q1, q2, q3, q4, rfl⟩, ⟨q5, q6, q7, q8, fun j hj => ⟨q9 j (by omega), fun z => by cases z⟩⟩, ⟨T0, c2, ⟨i4, fun k q hq => h7 k q hq⟩, ok.1.2.1⟩, Or.inl (by omega), Or.inr (by omega)⟩
theorem c_hear {pz : PZT} {d : Nat} {h : AH} {Q : Option Value → AH → Prop} (hd : 12 ≤ d) (x nr nw l : Nat) (A M : PC) (fo y : Int32) (ps : List PC) (ns : List (Nat × Nat × Int32)) (cls : List (List (List (Nat × Nat) × List (Nat × Nat)))) (tp : List Int32) (im : Nat → Option TW) (hl : l ≤ 60) (H : CW pz h x ((nr, nw, A, fo, y, M, ps, ns), cls, tp, im)) (ok : wsOk ((nr, nw, A, fo, y, M, ps, ns), cls, tp, im)) (ha : hR h (x + 8) 0 ≠ 0) (k : ∀ h', hN h' = hN h → hU h' = hU h → CW pz h' x ((nr, nw, A, fo, y, M, ps, ns), cls, tp, im) → WiIs h' (x + 79) nw (ftB cls A nr nw ns) (fun j w => itF (Rr cls j) A nr nw (l + 1) (begM A) 5 w) (cls.length + 1) → Q none h') : Calls d nX10_hear [.ref (x + 79), .ref (x + 8), .ref (x + 7), .int (nI cls.length), .int (nI l)] h (hN h) (hU h) Q := by
  obtain ⟨r1, r2, r5⟩ := H.2.2.1
  exact sp_hear hd (x + 79) (x + 8) _ (x + 7) nr nw l A ns cls hl (Or.inr (by omega)) (fun i c hc => Or.inl (by have := r5 i c hc; omega)) (H.vc ok ha) r2 (fun h' f W => k h' f.2.2.1 f.2.2.2.1 (H.vb f) W)
theorem c_ruled {pz : PZT} {d : Nat} {h : AH} {Q : Option Value → AH → Prop} (hd : 13 ≤ d) (x nr nw : Nat) (A M : PC) (fo y : Int32) (ps : List PC) (ns : List (Nat × Nat × Int32)) (cls : List (List (List (Nat × Nat) × List (Nat × Nat)))) (tp : List Int32) (im : Nat → Option TW) (w : Int32) (H : CW pz h x ((nr, nw, A, fo, y, M, ps, ns), cls, tp, im)) (ok : wsOk ((nr, nw, A, fo, y, M, ps, ns), cls, tp, im)) (k : ∀ h', CW pz h' x ((nr, nw, A, fo, y, M, ps, ns), cls, tp, im) → hN h' = hN h → hU h' = hU h → Q (some (.int (aRuled nr nw A cls ns w))) h') : Calls d nX11_ruled [.ref x, .int w] h (hN h) (hU h) Q := by
  obtain ⟨e, rfl⟩ : ∃ e, d = e + 1 := ⟨d - 1, by omega⟩
  obtain ⟨s0, p4, T0, HH, HM, b1, b2⟩ := H.un
  have p9 : hR h x 9 = x + 79 := H.1.2.2.2.2.2.2.2.2.2.2.1
  have p2 : hR h x 2 = x + 7 := H.1.2.2.2.2.1
  have r1 : hI h x 3 = nI cls.length := H.2.2.1.1
  have q1 := H.scr.2.2.2.1.1.1
  have bad : ¬ (0 < A 0 0 ∧ (0 ≤ w ∧ w ≤ 1)) → Q (some (.int (-3))) h := fun z => by
    have := k h H rfl rfl
    unfold aRuled at this
    rwa [if_neg z] at this
  refine wX11_ruled (by omega) x w ?_
  simp only [rt_i, rt_b0, rt_b1, rt_v, rt_l, rt_o, rt_a, rV_none, rI_some, rL_some, rR_some, rT_some, rt_bI, hIf_sL, hIf_sR, hS_sI, hS_sL, hS_sR, hS_cpI, hR_sI, hR_sL, hR_cpI, hL_sI, hL_sR, hL_cpI, hI_sL, hI_sR, hN_sI, hN_sL, hN_sR, hN_cpI, hU_sI, hU_sL, hU_sR, hU_cpI, tn0, tn1, tn2, tn3, tn4, tn5, tn6, tn7, tn8, tn9, tn10, tn11, tn12, tn13, tn14, tn15, tn16, tn17, tn18, tn19, tn20, tn21, tn22, tn23, tn24, tn25, tn26, tn27, tn28, tn29, tn30, tn31, tn32, tn33, tn34, tn35, tn36, tn37, tn38, tn39, tn40, tn41, tn42, tn43, tn44, tn45, tn46, tn47, tn48, tn49, tn50, tn51, tn52, tn53, tn54, tn55, tn56, tn57, tn58, tn59, tn60, lH_eq, true_and, and_true, s0, p4, twq_0 T0]
  refine ⟨fun z => bad (fun c => ?_), fun z => ?_⟩
  · rcases HH with ⟨-, -, -, c4⟩ | ⟨c1, -⟩
    · rw [c4] at c
      exact absurd c.1 (by decide)
    · exact c1 z
  have hp : 0 < A 0 0 := (H.2.1.2.1 z).2
  refine sp_isWithin (by omega) w 0 1 ?_
  simp only [rI_some, bI0, rt_i, rt_b0, rt_b1, rt_v, rt_l, rt_o, rt_a, rV_none, rI_some, rL_some, rR_some, rT_some, rt_bI, hIf_sL, hIf_sR, hS_sI, hS_sL, hS_sR, hS_cpI, hR_sI, hR_sL, hR_cpI, hL_sI, hL_sR, hL_cpI, hI_sL, hI_sR, hN_sI, hN_sL, hN_sR, hN_cpI, hU_sI, hU_sL, hU_sR, hU_cpI, tn0, tn1, tn2, tn3, tn4, tn5, tn6, tn7, tn8, tn9, tn10, tn11, tn12, tn13, tn14, tn15, tn16, tn17, tn18, tn19, tn20, tn21, tn22, tn23, tn24, tn25, tn26, tn27, tn28, tn29, tn30, tn31, tn32, tn33, tn34, tn35, tn36, tn37, tn38, tn39, tn40, tn41, tn42, tn43, tn44, tn45, tn46, tn47, tn48, tn49, tn50, tn51, tn52, tn53, tn54, tn55, tn56, tn57, tn58, tn59, tn60, lH_eq, true_and, and_true, s0, p4, p9, p2, r1, q1]
  refine ⟨fun u => ?_, fun u => bad (fun c => u c.2)⟩
  have u := Decidable.not_not.mp u
  unfold aRuled at k
  rw [if_pos ⟨hp, u⟩] at k
  rw [show (0 : Int32) = nI 0 from rfl]
  refine c_hear (by omega) x nr nw 0 A M fo y ps ns cls tp im (by decide) H ok z (fun h1 e1 e2 C1 W1 => ?_)
  have p91 : hR h1 x 9 = x + 79 := C1.1.2.2.2.2.2.2.2.2.2.2.1
  have q11 := C1.scr.2.2.2.1.1.1
  have kk := k h1 C1 e1 e2
  simp only [rV_none, rt_i, rt_b0, rt_b1, rt_v, rt_l, rt_o, rt_a, rV_none, rI_some, rL_some, rR_some, rT_some, rt_bI, hIf_sL, hIf_sR, hS_sI, hS_sL, hS_sR, hS_cpI, hR_sI, hR_sL, hR_cpI, hL_sI, hL_sR, hL_cpI, hI_sL, hI_sR, hN_sI, hN_sL, hN_sR, hN_cpI, hU_sI, hU_sL, hU_sR, hU_cpI, tn0, tn1, tn2, tn3, tn4, tn5, tn6, tn7, tn8, tn9, tn10, tn11, tn12, tn13, tn14, tn15, tn16, tn17, tn18, tn19, tn20, tn21, tn22, tn23, tn24, tn25, tn26, tn27, tn28, tn29, tn30, tn31, tn32, tn33, tn34, tn35, tn36, tn37, tn38, tn39, tn40, tn41, tn42, tn43, tn44, tn45, tn46, tn47, tn48, tn49, tn50, tn51, tn52, tn53, tn54, tn55, tn56, tn57, tn58, tn59, tn60, lH_eq, true_and, and_true, C1.1.2.1, p91, q11, W1.1, W1.2.1]
  refine ⟨fun v => ?_, fun v => ?_⟩
  · rw [if_neg (show ¬ w = 0 from v)] at kk
    exact ⟨e1, e2, kk⟩
  · rw [if_pos (show w = 0 from v)] at kk
    exact ⟨e1, e2, kk⟩
theorem c_look {pz : PZT} {d : Nat} {h : AH} {Q : Option Value → AH → Prop} (hd : 13 ≤ d) (x nr nw : Nat) (A M : PC) (fo y : Int32) (ps : List PC) (ns : List (Nat × Nat × Int32)) (cls : List (List (List (Nat × Nat) × List (Nat × Nat)))) (tp : List Int32) (im : Nat → Option TW) (n w : Int32) (H : CW pz h x ((nr, nw, A, fo, y, M, ps, ns), cls, tp, im)) (ok : wsOk ((nr, nw, A, fo, y, M, ps, ns), cls, tp, im)) (k : ∀ h', CW pz h' x ((nr, nw, A, fo, y, M, ps, ns), cls, tp, im) → hN h' = hN h → hU h' = hU h → Q (some (.int (aLook nr nw A cls ns n w))) h') : Calls d nX11_look [.ref x, .int n, .int w] h (hN h) (hU h) Q := by
  obtain ⟨e, rfl⟩ : ∃ e, d = e + 1 := ⟨d - 1, by omega⟩
  obtain ⟨s0, p4, T0, HH, HM, b1, b2⟩ := H.un
  have p9 : hR h x 9 = x + 79 := H.1.2.2.2.2.2.2.2.2.2.2.1
  have p2 : hR h x 2 = x + 7 := H.1.2.2.2.2.1
  have r1 : hI h x 3 = nI cls.length := H.2.2.1.1
  have r6 : cls.length ≤ 6 := H.2.2.1.2.1.2.1
  have q1 := H.scr.2.2.2.1.1.1
  have bad : ¬ (0 < A 0 0 ∧ (0 ≤ n ∧ n ≤ 60) ∧ (0 ≤ w ∧ w ≤ 1)) → Q (some (.int (-1))) h := fun z => by
    have := k h H rfl rfl
    unfold aLook at this
    rwa [if_neg z] at this
  refine wX11_look (by omega) x n w ?_
  simp only [rt_i, rt_b0, rt_b1, rt_v, rt_l, rt_o, rt_a, rV_none, rI_some, rL_some, rR_some, rT_some, rt_bI, hIf_sL, hIf_sR, hS_sI, hS_sL, hS_sR, hS_cpI, hR_sI, hR_sL, hR_cpI, hL_sI, hL_sR, hL_cpI, hI_sL, hI_sR, hN_sI, hN_sL, hN_sR, hN_cpI, hU_sI, hU_sL, hU_sR, hU_cpI, tn0, tn1, tn2, tn3, tn4, tn5, tn6, tn7, tn8, tn9, tn10, tn11, tn12, tn13, tn14, tn15, tn16, tn17, tn18, tn19, tn20, tn21, tn22, tn23, tn24, tn25, tn26, tn27, tn28, tn29, tn30, tn31, tn32, tn33, tn34, tn35, tn36, tn37, tn38, tn39, tn40, tn41, tn42, tn43, tn44, tn45, tn46, tn47, tn48, tn49, tn50, tn51, tn52, tn53, tn54, tn55, tn56, tn57, tn58, tn59, tn60, lH_eq, true_and, and_true, s0, p4, twq_0 T0]
  refine ⟨fun z => bad (fun c => ?_), fun z => ?_⟩
  · rcases HH with ⟨-, -, -, c4⟩ | ⟨c1, -⟩
    · rw [c4] at c
      exact absurd c.1 (by decide)
    · exact c1 z
  have hp : 0 < A 0 0 := (H.2.1.2.1 z).2
  refine sp_isWithin (by omega) n 0 60 ?_
  simp only [rI_some, bI0, rt_i, rt_b0, rt_b1, rt_v, rt_l, rt_o, rt_a, rV_none, rI_some, rL_some, rR_some, rT_some, rt_bI, hIf_sL, hIf_sR, hS_sI, hS_sL, hS_sR, hS_cpI, hR_sI, hR_sL, hR_cpI, hL_sI, hL_sR, hL_cpI, hI_sL, hI_sR, hN_sI, hN_sL, hN_sR, hN_cpI, hU_sI, hU_sL, hU_sR, hU_cpI, tn0, tn1, tn2, tn3, tn4, tn5, tn6, tn7, tn8, tn9, tn10, tn11, tn12, tn13, tn14, tn15, tn16, tn17, tn18, tn19, tn20, tn21, tn22, tn23, tn24, tn25, tn26, tn27, tn28, tn29, tn30, tn31, tn32, tn33, tn34, tn35, tn36, tn37, tn38, tn39, tn40, tn41, tn42, tn43, tn44, tn45, tn46, tn47, tn48, tn49, tn50, tn51, tn52, tn53, tn54, tn55, tn56, tn57, tn58, tn59, tn60, lH_eq, true_and, and_true]
  refine ⟨fun u => bad (fun c => u c.2.1), fun u => ?_⟩
  have u := Decidable.not_not.mp u
  refine sp_isWithin (by omega) w 0 1 ?_
  simp only [rI_some, bI0, rt_i, rt_b0, rt_b1, rt_v, rt_l, rt_o, rt_a, rV_none, rI_some, rL_some, rR_some, rT_some, rt_bI, hIf_sL, hIf_sR, hS_sI, hS_sL, hS_sR, hS_cpI, hR_sI, hR_sL, hR_cpI, hL_sI, hL_sR, hL_cpI, hI_sL, hI_sR, hN_sI, hN_sL, hN_sR, hN_cpI, hU_sI, hU_sL, hU_sR, hU_cpI, tn0, tn1, tn2, tn3, tn4, tn5, tn6, tn7, tn8, tn9, tn10, tn11, tn12, tn13, tn14, tn15, tn16, tn17, tn18, tn19, tn20, tn21, tn22, tn23, tn24, tn25, tn26, tn27, tn28, tn29, tn30, tn31, tn32, tn33, tn34, tn35, tn36, tn37, tn38, tn39, tn40, tn41, tn42, tn43, tn44, tn45, tn46, tn47, tn48, tn49, tn50, tn51, tn52, tn53, tn54, tn55, tn56, tn57, tn58, tn59, tn60, lH_eq, true_and, and_true, s0, p4, p9, p2, r1, q1]
  refine ⟨fun v => ?_, fun v => bad (fun c => v c.2.2)⟩
  have v := Decidable.not_not.mp v
  unfold aLook at k
  rw [if_pos ⟨hp, u, v⟩] at k
  obtain ⟨n, hn, rfl⟩ := rg_of (n := 60) rfl (by decide) u
  rw [nI_clamp (by omega)] at k
  refine c_hear (by omega) x nr nw n A M fo y ps ns cls tp im hn H ok z (fun h1 e1 e2 C1 W1 => ?_)
  obtain ⟨s01, p41, T01, HH1, HM1, -, -⟩ := C1.un
  have p91 : hR h1 x 9 = x + 79 := C1.1.2.2.2.2.2.2.2.2.2.2.1
  have q11 := C1.scr.2.2.2.1.1
  have q12 := C1.scr.2.2.2.1.2.2.2
  have kk := k h1 C1 e1 e2
  have hne := (C1.hill ok (Or.inr (Or.inr hp))).1
  rcases HH1 with ⟨c1, -⟩ | ⟨c1, c2⟩
  · exact absurd c1 hne
  have hg : GoAt h1 (x + 79) := ⟨q11.1, q11.2.2.2, q12.1, q12.2.1⟩
  have cl := ctF_le (ftB cls A nr nw ns) (cls.length + 1)
  simp only [rV_none, rt_i, rt_b0, rt_b1, rt_v, rt_l, rt_o, rt_a, rV_none, rI_some, rL_some, rR_some, rT_some, rt_bI, hIf_sL, hIf_sR, hS_sI, hS_sL, hS_sR, hS_cpI, hR_sI, hR_sL, hR_cpI, hL_sI, hL_sR, hL_cpI, hI_sL, hI_sR, hN_sI, hN_sL, hN_sR, hN_cpI, hU_sI, hU_sL, hU_sR, hU_cpI, tn0, tn1, tn2, tn3, tn4, tn5, tn6, tn7, tn8, tn9, tn10, tn11, tn12, tn13, tn14, tn15, tn16, tn17, tn18, tn19, tn20, tn21, tn22, tn23, tn24, tn25, tn26, tn27, tn28, tn29, tn30, tn31, tn32, tn33, tn34, tn35, tn36, tn37, tn38, tn39, tn40, tn41, tn42, tn43, tn44, tn45, tn46, tn47, tn48, tn49, tn50, tn51, tn52, tn53, tn54, tn55, tn56, tn57, tn58, tn59, tn60, lH_eq, true_and, and_true, s01, p41, p91, twq_0 T01, c2.1.1, c2.2.2.1, q11.1]
  refine ⟨fun t => ?_, fun t => ?_⟩
  · have hw : w = 0 := by
      obtain ⟨j, hj, rfl⟩ := rg_of (n := 1) rfl (by decide) v
      have : j = 0 ∨ j = 1 := by omega
      rcases this with rfl | rfl
      · rfl
      · exact absurd rfl t
    subst hw
    refine sp_bestWare (by omega) (x + 79) _ nw (fun k w => gLk nr nw A cls n (ixF (ftB cls A nr nw ns) (cls.length + 1) k) w) 0 hg (by omega) b2 W1.1 W1.2.2 ?_
    simp only [rI_some, rt_i, rt_b0, rt_b1, rt_v, rt_l, rt_o, rt_a, rV_none, rI_some, rL_some, rR_some, rT_some, rt_bI, hIf_sL, hIf_sR, hS_sI, hS_sL, hS_sR, hS_cpI, hR_sI, hR_sL, hR_cpI, hL_sI, hL_sR, hL_cpI, hI_sL, hI_sR, hN_sI, hN_sL, hN_sR, hN_cpI, hU_sI, hU_sL, hU_sR, hU_cpI, tn0, tn1, tn2, tn3, tn4, tn5, tn6, tn7, tn8, tn9, tn10, tn11, tn12, tn13, tn14, tn15, tn16, tn17, tn18, tn19, tn20, tn21, tn22, tn23, tn24, tn25, tn26, tn27, tn28, tn29, tn30, tn31, tn32, tn33, tn34, tn35, tn36, tn37, tn38, tn39, tn40, tn41, tn42, tn43, tn44, tn45, tn46, tn47, tn48, tn49, tn50, tn51, tn52, tn53, tn54, tn55, tn56, tn57, tn58, tn59, tn60, lH_eq, true_and, and_true]
    exact ⟨e1, e2, kk⟩
  · subst t
    refine sp_bestWare (by omega) (x + 79) _ nw (fun k w => gLk nr nw A cls n (ixF (ftB cls A nr nw ns) (cls.length + 1) k) w) 1 hg (by omega) b2 W1.1 W1.2.2 ?_
    simp only [rI_some, rt_i, rt_b0, rt_b1, rt_v, rt_l, rt_o, rt_a, rV_none, rI_some, rL_some, rR_some, rT_some, rt_bI, hIf_sL, hIf_sR, hS_sI, hS_sL, hS_sR, hS_cpI, hR_sI, hR_sL, hR_cpI, hL_sI, hL_sR, hL_cpI, hI_sL, hI_sR, hN_sI, hN_sL, hN_sR, hN_cpI, hU_sI, hU_sL, hU_sR, hU_cpI, tn0, tn1, tn2, tn3, tn4, tn5, tn6, tn7, tn8, tn9, tn10, tn11, tn12, tn13, tn14, tn15, tn16, tn17, tn18, tn19, tn20, tn21, tn22, tn23, tn24, tn25, tn26, tn27, tn28, tn29, tn30, tn31, tn32, tn33, tn34, tn35, tn36, tn37, tn38, tn39, tn40, tn41, tn42, tn43, tn44, tn45, tn46, tn47, tn48, tn49, tn50, tn51, tn52, tn53, tn54, tn55, tn56, tn57, tn58, tn59, tn60, lH_eq, true_and, and_true]
    exact ⟨e1, e2, kk⟩
