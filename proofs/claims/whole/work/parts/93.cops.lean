theorem SCR.fr {h h' : AH} {x : Nat} {S : Nat → Prop} (H : SCR h x) (f : Fr' h h' S) (o1 : ∀ j, j < 5 → hI h' (x + 21) j = -2) (o2 : ∀ j, j < 5 → hI h' (x + 27) j = -2) (o3 : ∀ j, j < 5 → hI h' (x + 39) j = -2) (o4 : ∀ j, j < 5 → hI h' (x + 81) j = -2) (o5 : hI h' (x + 100) 0 = 0) : SCR h' x := by
  obtain ⟨⟨a1, -⟩, ⟨b1, b2, b3, b4, b5, -⟩, ⟨c1, ⟨c2, c3, c4, c5, c6, c7, c8, c9, c10, c11⟩, -⟩, ⟨d1, d2, d3, d4, d5, -⟩, ⟨e1, e2, e3, -⟩⟩ := H
  refine ⟨⟨a1.fr f, o1⟩, ⟨by rw [f.1]; exact b1, by rw [f.2.1]; exact b2, by rw [f.2.1]; exact b3, b4.fr f, b5.fr f, o2⟩, ⟨by rw [f.1]; simp only [f.2.1]; exact c1, ⟨c2.fr f, c3.fr f, c4.fr f, c5.fr f, by rw [f.1]; exact c6, by rw [f.1]; exact c7, by rw [f.1]; exact c8, by rw [f.1]; exact c9, fun i hi => by rw [f.1, f.2.1]; exact c10 i hi, fun i hi => by rw [f.1, f.2.1]; exact c11 i hi⟩, o3⟩, ⟨by rw [f.1]; simp only [f.2.1]; exact d1, d2.fr f, d3.fr f, by rw [f.1]; exact d4, fun i hi => by rw [f.1, f.2.1]; exact d5 i hi, o4⟩, ⟨by rw [f.1]; exact e1, by rw [f.2.1]; exact e2, by rw [f.1]; exact e3, o5⟩⟩
theorem SCR.far {h h' : AH} {x : Nat} {S : Nat → Prop} (H : SCR h x) (f : Fr' h h' S) (hs : ∀ c, S c → c < x + 20 ∨ x + 100 < c) : SCR h' x := by
  have g : ∀ c, x + 20 ≤ c → c ≤ x + 100 → ∀ j, hI h' c j = hI h c j := fun c h1 h2 j => f.2.2.2.2.1 c (fun z => by have := hs c z; omega) j
  exact H.fr f (fun j hj => by rw [g _ (by omega) (by omega)]; exact H.1.2 j hj) (fun j hj => by rw [g _ (by omega) (by omega)]; exact H.2.1.2.2.2.2.2 j hj) (fun j hj => by rw [g _ (by omega) (by omega)]; exact H.2.2.1.2.2 j hj) (fun j hj => by rw [g _ (by omega) (by omega)]; exact H.2.2.2.1.2.2.2.2.2 j hj) (by rw [g _ (by omega) (by omega)]; exact H.2.2.2.2.2.2.2)
/-- the reference works beside -/
theorem CW.ref {pz : PZT} {h h' : AH} {x : Nat} {W : WS} (H : CW pz h x W) (f : Fr' h h' (MZ (x + 101))) : CW (pz.1, h') h' x W := H.fra (FrG.of f) (fun c z => by unfold MZ at z; omega) (H.2.2.2.2.2.1.far f (fun c z => by unfold MZ at z; omega))
theorem thBits_cg {a b : Nat → Bool} : ∀ n, (∀ j, j < n → a j = b j) → thBits a n = thBits b n
  | 0, _ => rfl
  | n + 1, h => by
    have := thBits_cg n (fun j hj => h j (by omega))
    simp only [thBits, this, h n (by omega)]
theorem thBits_cut {a : Nat → Bool} {m : Nat} : ∀ n, thBits (fun w => decide (w < m) && a w) (m + n) = thBits a m
  | 0 => thBits_cg m (fun j hj => by simp [hj])
  | n + 1 => by
    have := thBits_cut (a := a) (m := m) n
    rw [show m + (n + 1) = m + n + 1 by omega]
    simp only [thBits, this]
    rw [if_neg (by simp; omega)]
theorem c_count {pz : PZT} {d : Nat} {h : AH} {Q : Option Value → AH → Prop} (hd : 8 ≤ d) (x nr nw : Nat) (A M : PC) (fo y : Int32) (ps : List PC) (ns : List (Nat × Nat × Int32)) (cls : List (List (List (Nat × Nat) × List (Nat × Nat)))) (tp : List Int32) (im : Nat → Option TW) (w : Int32) (H : CW pz h x ((nr, nw, A, fo, y, M, ps, ns), cls, tp, im)) (k : Q (some (.int (oCount nr nw A M fo y ps.length ns.length cls.length tp.length w))) h) : Calls d nX11_count [.ref x, .int w] h (hN h) (hU h) Q := by
  obtain ⟨e, rfl⟩ : ∃ e, d = e + 1 := ⟨d - 1, by omega⟩
  obtain ⟨⟨-, s0, p0, p1, p2, p4, p5, p6, p7, p8, p9, p10⟩, ⟨⟨T0, ⟨b1, b2, b3, b4⟩, HH, ⟨i1, i2, i3, i4⟩, HM, -⟩, -⟩, ⟨r1, -⟩, ⟨-, t2, t3, -⟩, -⟩ := H
  have m0 : hI h (x + 8 + 1) 0 = M 0 0 := HM.2.1.1
  have hw : suF (hI h (x + 8 + 1 + 3)) 5 = suF (M 3) nr := by
    have e1 := suF_tail (f := hI h (x + 8 + 1 + 3)) nr (5 - nr) (fun j h1 h2 => HM.2.2 j h1 (by omega))
    rw [show nr + (5 - nr) = 5 by omega] at e1
    rw [e1]
    exact suF_cg (fun j hj => (HM.2.1.2.1 j hj).2.2)
  have hb : thBits (fun w => decide (w < nw) && thB (A 5) (hI h (x + 8 + 1) 0) w) 6 = thBits (thB (A 5) (M 0 0)) nw := by
    rw [m0]
    have := thBits_cut (a := thB (A 5) (M 0 0)) (m := nw) (6 - nw)
    rw [show nw + (6 - nw) = 6 by omega] at this
    exact this
  have e3 := twq_1 T0
  have k0 := HM.1.1
  have hz : (hR h (x + 8) 0 = 0 → A 0 0 = 0 ∧ nr = 0 ∧ nw = 0) ∧ (¬ hR h (x + 8) 0 = 0 → hS h (hR h (x + 8) 0) = (13, 8) ∧ hI h (hR h (x + 8) 0) 0 = A 0 0 ∧ hI h (hR h (x + 8) 0) 1 = nI nr ∧ hI h (hR h (x + 8) 0) 2 = nI nw) := by
    rcases HH with ⟨c1, c2, c3, c4⟩ | ⟨c1, c2⟩
    · exact ⟨fun _ => ⟨c4, c2, c3⟩, fun z => absurd c1 z⟩
    · exact ⟨fun z => absurd z c1, fun _ => ⟨c2.1.1, c2.2.2.2.2.2.1.1, c2.2.1, c2.2.2.1⟩⟩
  unfold oCount at k
  refine wX11_count (by omega) x w ?_
  simp only [rt_i, rt_b0, rt_b1, rt_v, rt_l, rt_o, rt_a, rV_none, rI_some, rL_some, rR_some, rT_some, rt_bI, hIf_sL, hIf_sR, hS_sI, hS_sL, hS_sR, hS_cpI, hR_sI, hR_sL, hR_cpI, hL_sI, hL_sR, hL_cpI, hI_sL, hI_sR, hN_sI, hN_sL, hN_sR, hN_cpI, hU_sI, hU_sL, hU_sR, hU_cpI, tn0, tn1, tn2, tn3, tn4, tn5, tn6, tn7, tn8, tn9, tn10, tn11, tn12, tn13, tn14, tn15, tn16, tn17, tn18, tn19, tn20, tn21, tn22, tn23, tn24, tn25, tn26, tn27, tn28, tn29, tn30, tn31, tn32, tn33, tn34, tn35, tn36, tn37, tn38, tn39, tn40, tn41, tn42, tn43, tn44, tn45, tn46, tn47, tn48, tn49, tn50, tn51, tn52, tn53, tn54, tn55, tn56, tn57, tn58, tn59, tn60, lH_eq, true_and, and_true, s0, p4, p1, twq_0 T0, e3, k0, t2, t3, r1, i1, i2, i3, i4, m0]
  refine ⟨fun z => ?_, fun z => ?_⟩
  · rw [if_pos z] at k
    refine ⟨fun u => ?_, fun u => ?_⟩
    · obtain ⟨q1, q2, q3, q4⟩ := hz.2 u
      rw [q1, q2]
      exact ⟨by decide, k⟩
    · rw [(hz.1 u).1] at k
      exact k
  rw [if_neg z] at k
  refine ⟨fun z => ?_, fun z => ?_⟩
  · rw [if_pos z] at k
    refine ⟨fun u => ?_, fun u => ?_⟩
    · obtain ⟨q1, q2, q3, q4⟩ := hz.2 u
      rw [q1, q3]
      exact ⟨by decide, k⟩
    · rw [(hz.1 u).2.1] at k
      exact k
  rw [if_neg z] at k
  refine ⟨fun z => ?_, fun z => ?_⟩
  · rw [if_pos z] at k
    refine ⟨fun u => ?_, fun u => ?_⟩
    · obtain ⟨q1, q2, q3, q4⟩ := hz.2 u
      rw [q1, q4]
      exact ⟨by decide, k⟩
    · rw [(hz.1 u).2.2] at k
      exact k
  rw [if_neg z] at k
  refine ⟨fun z => ?_, fun z => ?_⟩
  · rwa [if_pos z] at k
  rw [if_neg z] at k
  refine ⟨fun z => ?_, fun z => ?_⟩
  · rwa [if_pos z] at k
  rw [if_neg z] at k
  refine ⟨fun z => ?_, fun z => ?_⟩
  · rwa [if_pos z] at k
  rw [if_neg z] at k
  refine ⟨fun z => ?_, fun z => ?_⟩
  · rw [if_pos z] at k
    refine sp_wealthOfAll (by omega) (x + 8) T0 ?_
    rw [hw]
    simp only [rI_some, rt_i, rt_b0, rt_b1, rt_v, rt_l, rt_o, rt_a, rV_none, rI_some, rL_some, rR_some, rT_some, rt_bI, hIf_sL, hIf_sR, hS_sI, hS_sL, hS_sR, hS_cpI, hR_sI, hR_sL, hR_cpI, hL_sI, hL_sR, hL_cpI, hI_sL, hI_sR, hN_sI, hN_sL, hN_sR, hN_cpI, hU_sI, hU_sL, hU_sR, hU_cpI, tn0, tn1, tn2, tn3, tn4, tn5, tn6, tn7, tn8, tn9, tn10, tn11, tn12, tn13, tn14, tn15, tn16, tn17, tn18, tn19, tn20, tn21, tn22, tn23, tn24, tn25, tn26, tn27, tn28, tn29, tn30, tn31, tn32, tn33, tn34, tn35, tn36, tn37, tn38, tn39, tn40, tn41, tn42, tn43, tn44, tn45, tn46, tn47, tn48, tn49, tn50, tn51, tn52, tn53, tn54, tn55, tn56, tn57, tn58, tn59, tn60, lH_eq, true_and, and_true]
    exact k
  rw [if_neg z] at k
  refine ⟨fun z => ?_, fun z => ?_⟩
  · rw [if_pos z] at k
    refine sp_waresThere (by omega) (x + 8) nr nw A T0 HH b2 ?_
    rw [hb]
    simp only [rI_some, rt_i, rt_b0, rt_b1, rt_v, rt_l, rt_o, rt_a, rV_none, rI_some, rL_some, rR_some, rT_some, rt_bI, hIf_sL, hIf_sR, hS_sI, hS_sL, hS_sR, hS_cpI, hR_sI, hR_sL, hR_cpI, hL_sI, hL_sR, hL_cpI, hI_sL, hI_sR, hN_sI, hN_sL, hN_sR, hN_cpI, hU_sI, hU_sL, hU_sR, hU_cpI, tn0, tn1, tn2, tn3, tn4, tn5, tn6, tn7, tn8, tn9, tn10, tn11, tn12, tn13, tn14, tn15, tn16, tn17, tn18, tn19, tn20, tn21, tn22, tn23, tn24, tn25, tn26, tn27, tn28, tn29, tn30, tn31, tn32, tn33, tn34, tn35, tn36, tn37, tn38, tn39, tn40, tn41, tn42, tn43, tn44, tn45, tn46, tn47, tn48, tn49, tn50, tn51, tn52, tn53, tn54, tn55, tn56, tn57, tn58, tn59, tn60, lH_eq, true_and, and_true]
    exact k
  rw [if_neg z] at k
  refine ⟨fun z => ?_, fun z => ?_⟩
  · rwa [if_pos z] at k
  rw [if_neg z] at k
  refine ⟨fun z => ?_, fun z => ?_⟩
  · rwa [if_pos z] at k
  rw [if_neg z] at k
  refine ⟨fun z => ?_, fun z => ?_⟩
  · rwa [if_pos z] at k
  rw [if_neg z] at k
  refine ⟨fun z => ?_, fun z => ?_⟩
  · rwa [if_pos z] at k
  rwa [if_neg z] at k
