theorem c_undo {pz : PZT} {d : Nat} {h : AH} {Q : Option Value → AH → Prop} (hd : 7 ≤ d) (x nr nw : Nat) (A M : PC) (fo y : Int32) (ps : List PC) (ns : List (Nat × Nat × Int32)) (cls : List (List (List (Nat × Nat) × List (Nat × Nat)))) (tp : List Int32) (im : Nat → Option TW) (H : CW pz h x ((nr, nw, A, fo, y, M, ps, ns), cls, tp, im)) (k0 : ps = [] → Q (some (.int (-2))) h) (k1 : ∀ N qs, ps = qs ++ [N] → ∀ h', Fr' h h' (fun c => x + 8 ≤ c ∧ c ≤ x + 18) → CW pz h' x ((nr, nw, A, fo, y, N, qs, ns), cls, tp, im) → Q (some (.int (nI qs.length))) h') : Calls d nX11_undo [.ref x] h (hN h) (hU h) Q := by
  obtain ⟨e, rfl⟩ : ∃ e, d = e + 1 := ⟨d - 1, by omega⟩
  obtain ⟨s0, p4, T0, HH, HM, b1, b2⟩ := H.un
  refine wX11_undo (by omega) x ?_
  simp only [rt_i, rt_b0, rt_b1, rt_v, rt_l, rt_o, rt_a, rV_none, rI_some, rL_some, rR_some, rT_some, rt_bI, hIf_sL, hIf_sR, hS_sI, hS_sL, hS_sR, hS_cpI, hR_sI, hR_sL, hR_cpI, hL_sI, hL_sR, hL_cpI, hI_sL, hI_sR, hN_sI, hN_sL, hN_sR, hN_cpI, hU_sI, hU_sL, hU_sR, hU_cpI, tn0, tn1, tn2, tn3, tn4, tn5, tn6, tn7, tn8, tn9, tn10, tn11, tn12, tn13, tn14, tn15, tn16, tn17, tn18, tn19, tn20, tn21, tn22, tn23, tn24, tn25, tn26, tn27, tn28, tn29, tn30, tn31, tn32, tn33, tn34, tn35, tn36, tn37, tn38, tn39, tn40, tn41, tn42, tn43, tn44, tn45, tn46, tn47, tn48, tn49, tn50, tn51, tn52, tn53, tn54, tn55, tn56, tn57, tn58, tn59, tn60, lH_eq, true_and, and_true, s0, p4, twq_0 T0]
  refine sp_takeBack (by omega) (x + 8) nr nw A fo y M ps ns H.2.1.1 (fun e => ?_) (fun N qs e h1 f1 g1 HT => ?_)
  · simp only [rI_some]
    exact ⟨fun _ => ⟨trivial, trivial, k0 e⟩, fun z => absurd trivial z⟩
  · have f2 : Fr' h h1 (fun c => x + 8 ≤ c ∧ c ≤ x + 18) := f1.mono (fun c z => by unfold mS at z; omega)
    have C1 := H.town f2 (fun c z => Or.inl z) HT rfl
    have i3 : hI h1 (x + 8) 5 = nI qs.length := HT.2.2.2.1.2.2.1
    simp only [rI_some, f1.1, f1.2.1, s0, p4, twq_0 T0, i3, true_and]
    refine ⟨fun z => absurd z (by decide), fun _ => ?_⟩
    exact ⟨f2.2.2.1, f2.2.2.2.1, k1 N qs e h1 f2 C1⟩
