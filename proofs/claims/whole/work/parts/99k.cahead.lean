theorem crk_loop {pz : PZT} {d E1 E2 : Nat} {Q : Option Value → AH → Prop} {h : AH} (hd : 5 ≤ d) (x nr nw r : Nat) (A M : PC) (fo y : Int32) (ps : List PC) (ns : List (Nat × Nat × Int32)) (cls : List (List (List (Nat × Nat) × List (Nat × Nat)))) (tp : List Int32) (im : Nat → Option TW) (p : Int32) (H : CW pz h x ((nr, nw, A, fo, y, M, ps, ns), cls, tp, im)) (hr : r < nr) (e1 : hN h = E1) (e2 : hU h = E2) (k : Q (some (.int (nI (rkF M r p nr)))) h) : ∀ n i : Nat, i + n = nr → Reach d nX11_rank (28, [.ref x, .int (nI r), .int p, .int (nI (rkF M r p i)), .int (nI i)], []) h E1 E2 Q
  | 0, i, hi => by
    have : i = nr := by omega
    subst this
    obtain ⟨s0, p4, T0, HH, HM, b1, b2⟩ := H.un
    rcases HH with ⟨-, c2, -⟩ | ⟨c1, c2⟩
    · omega
    refine wX11_rank_28 (by omega) x (nI r) p _ (nI i) ?_
    simp only [rt_i, rt_b0, rt_b1, rt_v, rt_l, rt_o, rt_a, rV_none, rI_some, rL_some, rR_some, rT_some, rt_bI, hIf_sL, hIf_sR, hS_sI, hS_sL, hS_sR, hS_cpI, hR_sI, hR_sL, hR_cpI, hL_sI, hL_sR, hL_cpI, hI_sL, hI_sR, hN_sI, hN_sL, hN_sR, hN_cpI, hU_sI, hU_sL, hU_sR, hU_cpI, tn0, tn1, tn2, tn3, tn4, tn5, tn6, tn7, tn8, tn9, tn10, tn11, tn12, tn13, tn14, tn15, tn16, tn17, tn18, tn19, tn20, tn21, tn22, tn23, tn24, tn25, tn26, tn27, tn28, tn29, tn30, tn31, tn32, tn33, tn34, tn35, tn36, tn37, tn38, tn39, tn40, tn41, tn42, tn43, tn44, tn45, tn46, tn47, tn48, tn49, tn50, tn51, tn52, tn53, tn54, tn55, tn56, tn57, tn58, tn59, tn60, lH_eq, true_and, and_true, s0, p4, twq_0 T0, c2.1.1, c2.2.1, nI_le_iff (show i < 2 ^ 31 by omega) (show i < 2 ^ 31 by omega)]
    exact ⟨fun _ => ⟨e1, e2, k⟩, fun z => absurd (Nat.le_refl i) z⟩
  | n + 1, i, hi => by
    have ih := crk_loop hd x nr nw r A M fo y ps ns cls tp im p H hr e1 e2 k n (i + 1) (by omega)
    obtain ⟨s0, p4, T0, HH, HM, b1, b2⟩ := H.un
    rcases HH with ⟨-, c2, -⟩ | ⟨c1, c2⟩
    · omega
    have hm := HM.1
    have q1 := HM.2.1.2.1 i (by omega)
    have q2 := HM.2.1.2.1 r hr
    have a1 : hI h (x + 8 + 1 + 1) i = M 1 i := q1.1
    have a2 : hI h (x + 8 + 1 + 2) i = M 2 i := q1.2.1
    have a3 : hI h (x + 8 + 1 + 1) r = M 1 r := q2.1
    have a4 : hI h (x + 8 + 1 + 2) r = M 2 r := q2.2.1
    refine wX11_rank_28 (by omega) x (nI r) p _ (nI i) ?_
    simp only [rt_i, rt_b0, rt_b1, rt_v, rt_l, rt_o, rt_a, rV_none, rI_some, rL_some, rR_some, rT_some, rt_bI, hIf_sL, hIf_sR, hS_sI, hS_sL, hS_sR, hS_cpI, hR_sI, hR_sL, hR_cpI, hL_sI, hL_sR, hL_cpI, hI_sL, hI_sR, hN_sI, hN_sL, hN_sR, hN_cpI, hU_sI, hU_sL, hU_sR, hU_cpI, tn0, tn1, tn2, tn3, tn4, tn5, tn6, tn7, tn8, tn9, tn10, tn11, tn12, tn13, tn14, tn15, tn16, tn17, tn18, tn19, tn20, tn21, tn22, tn23, tn24, tn25, tn26, tn27, tn28, tn29, tn30, tn31, tn32, tn33, tn34, tn35, tn36, tn37, tn38, tn39, tn40, tn41, tn42, tn43, tn44, tn45, tn46, tn47, tn48, tn49, tn50, tn51, tn52, tn53, tn54, tn55, tn56, tn57, tn58, tn59, tn60, lH_eq, true_and, and_true, s0, p4, twq_0 T0, twq_1 T0, hm.1, c2.1.1, c2.2.1, nI_le_iff (show nr < 2 ^ 31 by omega) (show i < 2 ^ 31 by omega), nI_eq_iff (show i < 2 ^ 31 by omega) (show r < 2 ^ 31 by omega), nI_1]
    simp only [rkF] at ih
    refine ⟨fun z => absurd z (by omega), fun _ => ⟨fun z => ?_, fun z => ?_⟩⟩
    · rwa [if_neg (fun y => y.1 z)] at ih
    · refine sp_beats (by omega) (x + 8 + 1) i r p hm (by omega) (by omega) ?_
      simp only [rI_some, bI0, a1, a2, a3, a4]
      refine ⟨fun y => ?_, fun y => ?_⟩
      · rwa [if_neg (fun x => y x.2)] at ih
      · rwa [if_pos ⟨z, Decidable.not_not.mp y⟩] at ih
theorem c_rank {pz : PZT} {d : Nat} {h : AH} {Q : Option Value → AH → Prop} (hd : 7 ≤ d) (x nr nw : Nat) (A M : PC) (fo y : Int32) (ps : List PC) (ns : List (Nat × Nat × Int32)) (cls : List (List (List (Nat × Nat) × List (Nat × Nat)))) (tp : List Int32) (im : Nat → Option TW) (q p : Int32) (H : CW pz h x ((nr, nw, A, fo, y, M, ps, ns), cls, tp, im)) (k : Q (some (.int (aRank nr M q p))) h) : Calls d nX11_rank [.ref x, .int q, .int p] h (hN h) (hU h) Q := by
  obtain ⟨e, rfl⟩ : ∃ e, d = e + 1 := ⟨d - 1, by omega⟩
  obtain ⟨s0, p4, T0, HH, HM, b1, b2⟩ := H.un
  unfold aRank at k
  refine wX11_rank (by omega) x q p ?_
  simp only [rt_i, rt_b0, rt_b1, rt_v, rt_l, rt_o, rt_a, rV_none, rI_some, rL_some, rR_some, rT_some, rt_bI, hIf_sL, hIf_sR, hS_sI, hS_sL, hS_sR, hS_cpI, hR_sI, hR_sL, hR_cpI, hL_sI, hL_sR, hL_cpI, hI_sL, hI_sR, hN_sI, hN_sL, hN_sR, hN_cpI, hU_sI, hU_sL, hU_sR, hU_cpI, tn0, tn1, tn2, tn3, tn4, tn5, tn6, tn7, tn8, tn9, tn10, tn11, tn12, tn13, tn14, tn15, tn16, tn17, tn18, tn19, tn20, tn21, tn22, tn23, tn24, tn25, tn26, tn27, tn28, tn29, tn30, tn31, tn32, tn33, tn34, tn35, tn36, tn37, tn38, tn39, tn40, tn41, tn42, tn43, tn44, tn45, tn46, tn47, tn48, tn49, tn50, tn51, tn52, tn53, tn54, tn55, tn56, tn57, tn58, tn59, tn60, lH_eq, true_and, and_true, s0, p4, twq_0 T0]
  refine sp_hasRunner (by omega) (x + 8) nr nw A q T0 HH ?_
  simp only [rI_some, bI0]
  refine ⟨fun z => ?_, fun z => ?_⟩
  · rw [if_neg (fun c => z c.1)] at k
    exact ⟨trivial, trivial, k⟩
  have z := Decidable.not_not.mp z
  refine sp_isWithin (by omega) p 1 99 ?_
  simp only [rI_some, bI0]
  refine ⟨fun u => ?_, fun u => ?_⟩
  · have u := Decidable.not_not.mp u
    obtain ⟨r, hr, rfl⟩ := rn_of (by omega) z
    rw [if_pos ⟨z, u⟩, nI_clamp (by omega)] at k
    exact crk_loop (by omega) x nr nw r A M fo y ps ns cls tp im p H hr rfl rfl k nr 0 (by omega)
  · rw [if_neg (fun c => u c.2)] at k
    exact ⟨trivial, trivial, k⟩
theorem c_ahead {pz : PZT} {d : Nat} {h : AH} {Q : Option Value → AH → Prop} (hd : 13 ≤ d) (x nr nw : Nat) (A M : PC) (fo y : Int32) (ps : List PC) (ns : List (Nat × Nat × Int32)) (cls : List (List (List (Nat × Nat) × List (Nat × Nat)))) (tp : List Int32) (im : Nat → Option TW) (q n w : Int32) (H : CW pz h x ((nr, nw, A, fo, y, M, ps, ns), cls, tp, im)) (ok : wsOk ((nr, nw, A, fo, y, M, ps, ns), cls, tp, im)) (k : ∀ h', CW pz h' x ((nr, nw, A, fo, y, M, ps, ns), cls, tp, im) → hN h' = hN h → hU h' = hU h → Q (some (.int (aAhead nr nw A M (foR cls fo) q n w))) h') : Calls d nX11_ahead [.ref x, .int q, .int n, .int w] h (hN h) (hU h) Q := by
  obtain ⟨e, rfl⟩ : ∃ e, d = e + 1 := ⟨d - 1, by omega⟩
  obtain ⟨s0, p4, T0, HH, HM, b1, b2⟩ := H.un
  have p7 : hR h x 7 = x + 25 := H.1.2.2.2.2.2.2.2.2.1
  unfold aAhead at k
  refine wX11_ahead (by omega) x q n w ?_
  simp only [rt_i, rt_b0, rt_b1, rt_v, rt_l, rt_o, rt_a, rV_none, rI_some, rL_some, rR_some, rT_some, rt_bI, hIf_sL, hIf_sR, hS_sI, hS_sL, hS_sR, hS_cpI, hR_sI, hR_sL, hR_cpI, hL_sI, hL_sR, hL_cpI, hI_sL, hI_sR, hN_sI, hN_sL, hN_sR, hN_cpI, hU_sI, hU_sL, hU_sR, hU_cpI, tn0, tn1, tn2, tn3, tn4, tn5, tn6, tn7, tn8, tn9, tn10, tn11, tn12, tn13, tn14, tn15, tn16, tn17, tn18, tn19, tn20, tn21, tn22, tn23, tn24, tn25, tn26, tn27, tn28, tn29, tn30, tn31, tn32, tn33, tn34, tn35, tn36, tn37, tn38, tn39, tn40, tn41, tn42, tn43, tn44, tn45, tn46, tn47, tn48, tn49, tn50, tn51, tn52, tn53, tn54, tn55, tn56, tn57, tn58, tn59, tn60, lH_eq, true_and, and_true, s0, p4, p7, twq_0 T0]
  refine ⟨fun v => ?_, fun v => ?_⟩
  · refine sp_hasRunner (by omega) (x + 8) nr nw A q T0 HH ?_
    simp only [rI_some, bI0]
    refine ⟨fun z => ?_, fun z => ?_⟩
    · have := k h H rfl rfl
      rw [if_neg (fun c => c.1.elim (fun c => z c.2) (fun c => v c.1))] at this
      exact ⟨trivial, trivial, this⟩
    have z := Decidable.not_not.mp z
    refine sp_isWithin (by omega) n 0 100 ?_
    simp only [rI_some, bI0]
    refine ⟨fun u => ?_, fun u => ?_⟩
    · have := k h H rfl rfl
      rw [if_neg (fun c => u c.2)] at this
      exact ⟨trivial, trivial, this⟩
    have u := Decidable.not_not.mp u
    refine sp_isWithin (by omega) w 0 2 ?_
    simp only [rI_some, bI0, s0, p4, p7, true_and]
    refine ⟨fun y1 => ?_, fun y1 => ?_⟩
    · have y1 := Decidable.not_not.mp y1
      have hw : w = 0 ∨ w = 1 := by
        obtain ⟨j, hj, rfl⟩ := rg_of (n := 2) rfl (by decide) y1
        have : j = 0 ∨ j = 1 ∨ j = 2 := by omega
        rcases this with rfl | rfl | rfl
        · exact Or.inl rfl
        · exact Or.inr rfl
        · exact absurd rfl v
      have hw2 : 0 ≤ w ∧ w ≤ 1 := by rcases hw with rfl | rfl <;> decide
      obtain ⟨r, hr, rfl⟩ := rn_of (by omega) z
      obtain ⟨n, hn, rfl⟩ := rg_of (n := 100) rfl (by decide) u
      rw [if_pos ⟨Or.inl ⟨hw2, z⟩, u⟩, nI_clamp (by omega), nI_clamp (by omega)] at k
      refine c_ask (by omega) x nr nw A M fo y ps ns cls tp im H ok (H.hill ok (Or.inl (by omega))).1 (fun ru h1 e1 e2 C1 F1 M1 => ?_)
      have p71 : hR h1 x 7 = x + 25 := C1.1.2.2.2.2.2.2.2.2.1
      simp only [rV_none, C1.1.2.1, p71, F1.1.1, true_and]
      refine sp_go (by omega) (x + 25) (x + 8) _ ru nr nw A M M _ n (by omega) F1 M1 (fun h2 f2 gf M2 => ?_)
      have C2 := C1.fb f2
      have F2 := F1.fr f2
      have p72 : hR h2 x 7 = x + 25 := C2.1.2.2.2.2.2.2.2.2.1
      have p81 : hR h2 (x + 25) 1 = x + 25 + 6 := F2.1.2.2.1
      have hm := M2.1
      have q := M2.2.1.2.1 r hr
      have q2 : hI h2 (x + 25 + 6 + 2) r = itF (foR cls fo) A nr nw n M 2 r := q.2.1
      have q3 : hI h2 (x + 25 + 6 + 3) r = itF (foR cls fo) A nr nw n M 3 r := q.2.2
      have kk := k h2 C2 (f2.2.2.1.trans e1) (f2.2.2.2.1.trans e2)
      simp only [rV_none, rt_i, rt_b0, rt_b1, rt_v, rt_l, rt_o, rt_a, rV_none, rI_some, rL_some, rR_some, rT_some, rt_bI, hIf_sL, hIf_sR, hS_sI, hS_sL, hS_sR, hS_cpI, hR_sI, hR_sL, hR_cpI, hL_sI, hL_sR, hL_cpI, hI_sL, hI_sR, hN_sI, hN_sL, hN_sR, hN_cpI, hU_sI, hU_sL, hU_sR, hU_cpI, tn0, tn1, tn2, tn3, tn4, tn5, tn6, tn7, tn8, tn9, tn10, tn11, tn12, tn13, tn14, tn15, tn16, tn17, tn18, tn19, tn20, tn21, tn22, tn23, tn24, tn25, tn26, tn27, tn28, tn29, tn30, tn31, tn32, tn33, tn34, tn35, tn36, tn37, tn38, tn39, tn40, tn41, tn42, tn43, tn44, tn45, tn46, tn47, tn48, tn49, tn50, tn51, tn52, tn53, tn54, tn55, tn56, tn57, tn58, tn59, tn60, lH_eq, true_and, and_true, C2.1.2.1, p72, p81, F2.1.1, moq_0 hm, moq_1 hm, moq_2 hm, moq_3 hm, moq_4 hm, moq_5 hm, moq_6 hm, moq_7 hm, moq_8 hm, moq_9 hm, moq_10 hm, vp_in_nI (show r < 5 by omega) (show 5 < 2 ^ 31 by omega), nI_clamp (show r < 2 ^ 31 by omega), q2, q3, f2.2.2.1.trans e1, f2.2.2.2.1.trans e2]
      rcases hw with rfl | rfl
      · exact ⟨fun z => absurd rfl z, fun _ => kk⟩
      · exact ⟨fun _ => ⟨fun z => absurd rfl z, fun _ => kk⟩, fun z => absurd z (by decide)⟩
    · have := k h H rfl rfl
      rw [if_neg (fun c => c.1.elim (fun c => y1 ⟨c.1.1, Int32.le_trans c.1.2 (by decide)⟩) (fun c => v c.1))] at this
      exact this
  · subst v
    refine sp_hasWare (by omega) (x + 8) nr nw A q T0 HH ?_
    simp only [rI_some, bI0]
    refine ⟨fun z => ?_, fun z => ?_⟩
    · have := k h H rfl rfl
      rw [if_neg (fun c => c.1.elim (fun c => absurd c.1.2 (by decide)) (fun c => z c.2))] at this
      exact ⟨trivial, trivial, this⟩
    have z := Decidable.not_not.mp z
    refine sp_isWithin (by omega) n 0 100 ?_
    simp only [rI_some, bI0]
    refine ⟨fun u => ?_, fun u => ?_⟩
    · have := k h H rfl rfl
      rw [if_neg (fun c => u c.2)] at this
      exact ⟨trivial, trivial, this⟩
    have u := Decidable.not_not.mp u
    refine sp_isWithin (by omega) 2 0 2 ?_
    simp only [rI_some, bI0, s0, p4, p7, true_and]
    refine ⟨fun y1 => ?_, fun y1 => absurd ⟨by decide, by decide⟩ y1⟩
    obtain ⟨r, hr, rfl⟩ := rn_of (by omega) z
    obtain ⟨n, hn, rfl⟩ := rg_of (n := 100) rfl (by decide) u
    rw [if_pos ⟨Or.inr ⟨rfl, z⟩, u⟩, nI_clamp (by omega), nI_clamp (by omega)] at k
    refine c_ask (by omega) x nr nw A M fo y ps ns cls tp im H ok (H.hill ok (Or.inr (Or.inl (by omega)))).1 (fun ru h1 e1 e2 C1 F1 M1 => ?_)
    have p71 : hR h1 x 7 = x + 25 := C1.1.2.2.2.2.2.2.2.2.1
    simp only [rV_none, C1.1.2.1, p71, F1.1.1, true_and]
    refine sp_go (by omega) (x + 25) (x + 8) _ ru nr nw A M M _ n (by omega) F1 M1 (fun h2 f2 gf M2 => ?_)
    have C2 := C1.fb f2
    have F2 := F1.fr f2
    have p72 : hR h2 x 7 = x + 25 := C2.1.2.2.2.2.2.2.2.2.1
    have p81 : hR h2 (x + 25) 1 = x + 25 + 6 := F2.1.2.2.1
    have hm := M2.1
    have q5 : hI h2 (x + 25 + 6 + 5) r = itF (foR cls fo) A nr nw n M 5 r := (M2.2.1.2.2 r hr).2
    have kk := k h2 C2 (f2.2.2.1.trans e1) (f2.2.2.2.1.trans e2)
    simp only [rV_none, rt_i, rt_b0, rt_b1, rt_v, rt_l, rt_o, rt_a, rV_none, rI_some, rL_some, rR_some, rT_some, rt_bI, hIf_sL, hIf_sR, hS_sI, hS_sL, hS_sR, hS_cpI, hR_sI, hR_sL, hR_cpI, hL_sI, hL_sR, hL_cpI, hI_sL, hI_sR, hN_sI, hN_sL, hN_sR, hN_cpI, hU_sI, hU_sL, hU_sR, hU_cpI, tn0, tn1, tn2, tn3, tn4, tn5, tn6, tn7, tn8, tn9, tn10, tn11, tn12, tn13, tn14, tn15, tn16, tn17, tn18, tn19, tn20, tn21, tn22, tn23, tn24, tn25, tn26, tn27, tn28, tn29, tn30, tn31, tn32, tn33, tn34, tn35, tn36, tn37, tn38, tn39, tn40, tn41, tn42, tn43, tn44, tn45, tn46, tn47, tn48, tn49, tn50, tn51, tn52, tn53, tn54, tn55, tn56, tn57, tn58, tn59, tn60, lH_eq, true_and, and_true, C2.1.2.1, p72, p81, F2.1.1, moq_0 hm, moq_1 hm, moq_2 hm, moq_3 hm, moq_4 hm, moq_5 hm, moq_6 hm, moq_7 hm, moq_8 hm, moq_9 hm, moq_10 hm, vp_in_nI (show r < 6 by omega) (show 6 < 2 ^ 31 by omega), nI_clamp (show r < 2 ^ 31 by omega), q5, f2.2.2.1.trans e1, f2.2.2.2.1.trans e2]
    exact ⟨fun _ => ⟨fun _ => kk, fun z => absurd z (by decide)⟩, fun z => absurd z (by decide)⟩
