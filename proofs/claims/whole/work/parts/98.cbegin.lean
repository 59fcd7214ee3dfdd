/-! questions of the class begin -/
theorem c_rule {pz : PZT} {d : Nat} {h : AH} {Q : Option Value → AH → Prop} (hd : 6 ≤ d) (x nr nw : Nat) (A M : PC) (fo y : Int32) (ps : List PC) (ns : List (Nat × Nat × Int32)) (cls : List (List (List (Nat × Nat) × List (Nat × Nat)))) (tp : List Int32) (im : Nat → Option TW) (H : CW pz h x ((nr, nw, A, fo, y, M, ps, ns), cls, tp, im)) (ok : wsOk ((nr, nw, A, fo, y, M, ps, ns), cls, tp, im)) (k : ∀ ru, RuIs h ru (foR cls fo) → (ru ≠ 0 → x + 145 ≤ ru) → Q (some (.ref ru)) h) : Calls d nX11_ruleInForce [.ref x] h (hN h) (hU h) Q := by
  obtain ⟨e, rfl⟩ : ∃ e, d = e + 1 := ⟨d - 1, by omega⟩
  obtain ⟨s0, p4, T0, HH, HM, b1, b2⟩ := H.un
  have p2 : hR h x 2 = x + 7 := H.1.2.2.2.2.1
  obtain ⟨r1, ⟨r2, r3, r4⟩, r5⟩ := H.2.2.1
  have r1 : hI h x 3 = nI cls.length := r1
  have r3 : cls.length ≤ 6 := r3
  have i1 : hI h (x + 8) 1 = fo := H.2.1.1.2.2.2.1.1
  obtain ⟨i, hi, e⟩ := ok.1.2.2.2
  have hi : i ≤ cls.length := hi
  subst e
  rw [foR_cI (by omega)] at k
  refine wX11_ruleInForce (by omega) x ?_
  simp only [rt_i, rt_b0, rt_b1, rt_v, rt_l, rt_o, rt_a, rV_none, rI_some, rL_some, rR_some, rT_some, rt_bI, hIf_sL, hIf_sR, hS_sI, hS_sL, hS_sR, hS_cpI, hR_sI, hR_sL, hR_cpI, hL_sI, hL_sR, hL_cpI, hI_sL, hI_sR, hN_sI, hN_sL, hN_sR, hN_cpI, hU_sI, hU_sL, hU_sR, hU_cpI, tn0, tn1, tn2, tn3, tn4, tn5, tn6, tn7, tn8, tn9, tn10, tn11, tn12, tn13, tn14, tn15, tn16, tn17, tn18, tn19, tn20, tn21, tn22, tn23, tn24, tn25, tn26, tn27, tn28, tn29, tn30, tn31, tn32, tn33, tn34, tn35, tn36, tn37, tn38, tn39, tn40, tn41, tn42, tn43, tn44, tn45, tn46, tn47, tn48, tn49, tn50, tn51, tn52, tn53, tn54, tn55, tn56, tn57, tn58, tn59, tn60, lH_eq, true_and, and_true, s0, p4, p2, twq_0 T0, r1, i1]
  refine sp_isWithin (by omega) (cI i) 0 (nI cls.length - 1) ?_
  simp only [rI_some, bI0, rt_i, rt_b0, rt_b1, rt_v, rt_l, rt_o, rt_a, rV_none, rI_some, rL_some, rR_some, rT_some, rt_bI, hIf_sL, hIf_sR, hS_sI, hS_sL, hS_sR, hS_cpI, hR_sI, hR_sL, hR_cpI, hL_sI, hL_sR, hL_cpI, hI_sL, hI_sR, hN_sI, hN_sL, hN_sR, hN_cpI, hU_sI, hU_sL, hU_sR, hU_cpI, tn0, tn1, tn2, tn3, tn4, tn5, tn6, tn7, tn8, tn9, tn10, tn11, tn12, tn13, tn14, tn15, tn16, tn17, tn18, tn19, tn20, tn21, tn22, tn23, tn24, tn25, tn26, tn27, tn28, tn29, tn30, tn31, tn32, tn33, tn34, tn35, tn36, tn37, tn38, tn39, tn40, tn41, tn42, tn43, tn44, tn45, tn46, tn47, tn48, tn49, tn50, tn51, tn52, tn53, tn54, tn55, tn56, tn57, tn58, tn59, tn60, lH_eq, true_and, and_true, s0, p4, p2, twq_0 T0, r2, i1]
  cases i with
  | zero =>
    refine ⟨fun _ => k 0 rfl (fun z => absurd rfl z), fun z => absurd (Decidable.not_not.mp z).1 (by decide)⟩
  | succ j =>
    rw [cI_s] at *
    have hq : cls[j]? = some (cls[j]'(by omega)) := List.getElem?_eq_getElem (by omega)
    have er : Rr cls (j + 1) = some (cls[j]'(by omega)) := by
      unfold Rr
      rw [if_neg (by omega), Nat.add_sub_cancel, hq]
    rw [er] at k
    have q4 := r4 j _ hq
    have q5 := r5 j _ hq
    have h0 : ((0 : Int32) ≤ nI j) := (nI_le_iff (a := 0) (b := j) (by decide) (by omega)).mpr (Nat.zero_le j)
    have h1 : nI j ≤ nI cls.length - 1 := by
      rw [show nI cls.length - 1 = nI (cls.length - 1) from pk_sub (b := 1) (by omega)]
      exact (nI_le_iff (by omega) (by omega)).mpr (by omega)
    refine ⟨fun z => absurd ⟨h0, h1⟩ z, fun _ => ⟨by decide, by decide, vp_in_nI (by omega) (by decide), ?_⟩⟩
    rw [nI_clamp (by omega)]
    exact k _ ⟨q4.1, q4.2⟩ (fun _ => q5)
theorem CouAt.rS {h : AH} {a b i v : Nat} (H : CouAt h a) (hn : a ≠ b) : CouAt (sR h b i v) a := by
  have e : ∀ j, hR (sR h b i v) a j = hR h a j := fun j => by rw [hR_sR, if_neg hn]
  unfold CouAt at H ⊢
  simp only [hS_sR, e]
  exact H
theorem MomAt.rS {h : AH} {a b i v : Nat} (H : MomAt h a) (hn : a ≠ b) : MomAt (sR h b i v) a := by
  have e : ∀ j, hR (sR h b i v) a j = hR h a j := fun j => by rw [hR_sR, if_neg hn]
  unfold MomAt at H ⊢
  simp only [hS_sR, e]
  exact H
theorem SCR.rS {h : AH} {x b i v : Nat} (H : SCR h x) (hb : (b = x + 25 ∧ 2 ≤ i) ∨ (b = x + 37 ∧ 8 ≤ i)) : SCR (sR h b i v) x := by
  have ne : ∀ k, k ≠ 25 → k ≠ 37 → x + k ≠ b := fun k h1 h2 => by omega
  have r25 : ∀ j, j < 2 → hR (sR h b i v) (x + 25) j = hR h (x + 25) j := fun j hj => by
    rw [hR_sR]
    split
    · rw [if_neg (by omega)]
    · rfl
  have r37 : ∀ j, j < 8 → hR (sR h b i v) (x + 37) j = hR h (x + 37) j := fun j hj => by
    rw [hR_sR]
    split
    · rw [if_neg (by omega)]
    · rfl
  have rr : ∀ k, k ≠ 25 → k ≠ 37 → ∀ j, hR (sR h b i v) (x + k) j = hR h (x + k) j := fun k h1 h2 j => by rw [hR_sR, if_neg (ne k h1 h2)]
  unfold SCR at H ⊢
  simp only [hS_sR, hI_sR, r25 0 (by decide), r25 1 (by decide), r37 0 (by decide), r37 1 (by decide), r37 2 (by decide), r37 3 (by decide), r37 4 (by decide), r37 5 (by decide), r37 6 (by decide), r37 7 (by decide), rr 63 (by decide) (by decide), rr 71 (by decide) (by decide), rr 79 (by decide) (by decide), rr 91 (by decide) (by decide), rr 99 (by decide) (by decide)]
  obtain ⟨⟨a1, a2⟩, ⟨b1, b2, b3, b4, b5, b6⟩, ⟨c0, ⟨c2, c3, c4, c5, c6⟩, c12⟩, ⟨f0, g2, g3, g4⟩, e1⟩ := H
  exact ⟨⟨a1.rS (ne 20 (by decide) (by decide)), a2⟩, ⟨b1, b2, b3, b4.rS (ne 26 (by decide) (by decide)), b5.rS (ne 31 (by decide) (by decide)), b6⟩, ⟨c0, ⟨c2.rS (ne 38 (by decide) (by decide)), c3.rS (ne 43 (by decide) (by decide)), c4.rS (ne 49 (by decide) (by decide)), c5.rS (ne 55 (by decide) (by decide)), c6⟩, c12⟩, ⟨f0, g2.rS (ne 80 (by decide) (by decide)), g3.rS (ne 85 (by decide) (by decide)), g4⟩, e1⟩
theorem CW.scr {pz : PZT} {h : AH} {x : Nat} {W : WS} (H : CW pz h x W) : SCR h x := H.2.2.2.2.2.1
theorem CW.rS {pz : PZT} {h : AH} {x b i v : Nat} {W : WS} (H : CW pz h x W) (hb : (b = x + 25 ∧ 2 ≤ i) ∨ (b = x + 37 ∧ 8 ≤ i)) : CW pz (sR h b i v) x W :=
  H.frs (frg_sR (S := fun c => c = b) (FrG.refl h _) (fun _ => rfl)) (fun c z => by omega) (SCR.rS H.scr hb)
theorem RuIs.rS {h : AH} {x ru b i v : Nat} {R : Option (List (List (Nat × Nat) × List (Nat × Nat)))} (H : RuIs h ru R) (hr : ru ≠ 0 → x + 145 ≤ ru) (hb : b < x + 145) : RuIs (sR h b i v) ru R := by
  cases R with
  | none => exact H
  | some c =>
    obtain ⟨h1, n1, h2⟩ := H
    have := hr h1
    have e : ∀ j, hR (sR h b i v) ru j = hR h ru j := fun j => by rw [hR_sR, if_neg (by omega)]
    refine ⟨h1, n1, ?_⟩
    simp only [hS_sR, e]
    exact h2
