theorem c_note {pz : PZT} {d : Nat} {h : AH} {Q : Option Value → AH → Prop} (hd : 7 ≤ d) (x nr nw : Nat) (A M : PC) (fo y : Int32) (ps : List PC) (ns : List (Nat × Nat × Int32)) (cls : List (List (List (Nat × Nat) × List (Nat × Nat)))) (tp : List Int32) (im : Nat → Option TW) (n w q : Int32) (H : CW pz h x ((nr, nw, A, fo, y, M, ps, ns), cls, tp, im)) (k : ∀ h', Fr' h h' (fun c => x + 8 ≤ c ∧ c ≤ x + 18) → CW pz h' x ((nr, nw, A, fo, y, M, ps, (oNote nr nw ns n w q).2), cls, tp, im) → Q (some (.int (oNote nr nw ns n w q).1)) h') : Calls d nX11_note [.ref x, .int n, .int w, .int q] h (hN h) (hU h) Q := by
  obtain ⟨e, rfl⟩ : ∃ e, d = e + 1 := ⟨d - 1, by omega⟩
  obtain ⟨s0, p4, T0, HH, HM, b1, b2⟩ := H.un
  have HT : TownIs h (x + 8) (nr, nw, A, fo, y, M, ps, ns) := H.2.1.1
  have hdy := H.2.1.2
  obtain ⟨-, ⟨-, -, b3, b4⟩, -, ⟨i1, i2, i3, i4⟩, -, -, -, h7⟩ := HT
  have HT : TownIs h (x + 8) (nr, nw, A, fo, y, M, ps, ns) := H.2.1.1
  have c10 : (nI ns.length < 10) = (ns.length < 10) := nI_lt_iff (b := 10) (by omega) (by decide)
  have bad : n ≠ -1 → ¬ ((0 ≤ n ∧ n ≤ 60) ∧ (0 ≤ w ∧ w < nI nw) ∧ (q = -1 ∨ (0 ≤ q ∧ q < nI nr)) ∧ ns.length ≠ 10) → Q (some (.int (-2))) h := fun z0 z => by
    have e : oNote nr nw ns n w q = (-2, ns) := by unfold oNote; rw [if_neg z0, if_neg z]
    rw [e] at k
    exact k h (Fr'.refl _ _) H
  have fin : n ≠ -1 → (0 ≤ n ∧ n ≤ 60) → (0 ≤ w ∧ w < nI nw) → (q = -1 ∨ (0 ≤ q ∧ q < nI nr)) → ns.length < 10 → Calls e nX9_writeDown [.ref (x + 8), .int n, .int w, .int q] h (hN h) (hU h) (fun r h1 => rV r ((hS h1 x).1 = 10 + 11 ∧ (hS h1 (hR h1 x 4)).1 = 10 + 9 ∧ hN h1 = hN h ∧ hU h1 = hU h ∧ Q (some (.int (hI h1 (hR h1 x 4) 9))) h1)) := fun z0 z1 z2 z3 z4 => by
    have e : oNote nr nw ns n w q = (nI (ns.length + 1), ns ++ [(n.toNatClampNeg, w.toNatClampNeg, q)]) := by unfold oNote; rw [if_neg z0, if_pos ⟨z1, z2, z3, by omega⟩]
    rw [e] at k
    obtain ⟨n, hn, rfl⟩ := rg_of (n := 60) rfl (by decide) z1
    obtain ⟨w, hw, rfl⟩ := rn_of (by omega) z2
    rw [nI_clamp (by omega), nI_clamp (by omega)] at k
    refine sp_writeDown (by omega) (x + 8) ns.length (nI n) (nI w) q T0 i4 z4 (fun h1 f1 g0 g8 g9 g10 => ?_)
    have f2 : Fr' h h1 (fun c => x + 8 ≤ c ∧ c ≤ x + 18) := f1.mono (fun c z => by omega)
    have C1 := H.town f2 (fun c z => Or.inl z) (HT.up (fo' := fo) (y' := y) hdy f2 (fun c z => by omega) (by rw [g0, if_neg (by decide)]; exact i1) (by rw [g0, if_neg (by decide)]; exact i2) (by rw [g0, if_neg (by decide)]; exact i3) (ns' := ns ++ [(n, w, q)]) (by rw [g0, if_pos rfl]; simp) b3 (by simp; omega) (HM.fr b1 b2 f1 (fun b h1 h2 => by omega)) (fun _ _ z => z) (fun i p hp => by
      rw [g8, g9, g10]
      by_cases c : i < ns.length
      · rw [List.getElem?_append_left c] at hp
        simp only [if_neg (show ¬ i = ns.length by omega)]
        exact h7 i p hp
      · have := getq_lt hp
        simp at this
        have ei : i = ns.length := by omega
        subst ei
        rw [List.getElem?_append_right (Nat.le_refl _)] at hp
        simp at hp
        subst hp
        simp only [if_true]
        exact ⟨trivial, trivial, trivial⟩)) rfl
    have g9' : hI h1 (x + 8) 9 = nI (ns.length + 1) := by rw [g0, if_pos rfl]
    simp only [rV_none, f1.1, f1.2.1, s0, p4, twq_0 T0, g9', true_and]
    exact ⟨f2.2.2.1, f2.2.2.2.1, k h1 f2 C1⟩
  refine wX11_note (by omega) x n w q ?_
  simp only [rt_i, rt_b0, rt_b1, rt_v, rt_l, rt_o, rt_a, rV_none, rI_some, rL_some, rR_some, rT_some, rt_bI, hIf_sL, hIf_sR, hS_sI, hS_sL, hS_sR, hS_cpI, hR_sI, hR_sL, hR_cpI, hL_sI, hL_sR, hL_cpI, hI_sL, hI_sR, hN_sI, hN_sL, hN_sR, hN_cpI, hU_sI, hU_sL, hU_sR, hU_cpI, tn0, tn1, tn2, tn3, tn4, tn5, tn6, tn7, tn8, tn9, tn10, tn11, tn12, tn13, tn14, tn15, tn16, tn17, tn18, tn19, tn20, tn21, tn22, tn23, tn24, tn25, tn26, tn27, tn28, tn29, tn30, tn31, tn32, tn33, tn34, tn35, tn36, tn37, tn38, tn39, tn40, tn41, tn42, tn43, tn44, tn45, tn46, tn47, tn48, tn49, tn50, tn51, tn52, tn53, tn54, tn55, tn56, tn57, tn58, tn59, tn60, lH_eq, true_and, and_true, s0, p4, twq_0 T0]
  refine ⟨fun z0 => ?_, fun z0 => ?_⟩
  · refine sp_hasWare (by omega) (x + 8) nr nw A w T0 HH ?_
    simp only [rI_some, bI0, s0, p4, twq_0 T0, true_and]
    refine ⟨fun z => ⟨fun _ => bad z0 (fun c => z c.2.1), fun y => absurd trivial y⟩, fun z => ⟨fun u => ⟨fun y => absurd y (by decide), fun _ => ?_⟩, fun u => ?_⟩⟩
    · have z := Decidable.not_not.mp z
      refine sp_isWithin (by omega) n 0 60 ?_
      simp only [rI_some, bI0, s0, p4, twq_0 T0, i4, c10, true_and]
      refine ⟨fun v => bad z0 (fun c => v c.1), fun v => ⟨fun t => fin z0 (Decidable.not_not.mp v) z (Or.inl u) t, fun t => bad z0 (fun c => t (by have := c.2.2.2; omega))⟩⟩
    · have z := Decidable.not_not.mp z
      refine sp_hasRunner (by omega) (x + 8) nr nw A q T0 HH ?_
      simp only [rI_some, bI0]
      refine ⟨fun v => ⟨fun _ => ⟨trivial, trivial, bad z0 (fun c => c.2.2.1.elim u v)⟩, fun y => absurd trivial y⟩, fun v => ⟨fun y => absurd y (by decide), fun _ => ?_⟩⟩
      have v := Decidable.not_not.mp v
      refine sp_isWithin (by omega) n 0 60 ?_
      simp only [rI_some, bI0, s0, p4, twq_0 T0, i4, c10, true_and]
      refine ⟨fun s => bad z0 (fun c => s c.1), fun s => ⟨fun t => fin z0 (Decidable.not_not.mp s) z (Or.inr v) t, fun t => bad z0 (fun c => t (by have := c.2.2.2; omega))⟩⟩
  · have e : oNote nr nw ns n w q = (0, []) := by unfold oNote; rw [if_pos z0]
    rw [e] at k
    have f : Fr' h (sI h (x + 8) 9 0) (fun c => x + 8 ≤ c ∧ c ≤ x + 18) := Fr'.sI (by omega)
    exact k _ f (H.town f (fun c z => Or.inl z) (HT.up hdy f (fun c z => by omega) (by rw [hI_sI, if_pos rfl, if_neg (by decide)]; exact i1) (by rw [hI_sI, if_pos rfl, if_neg (by decide)]; exact i2) (by rw [hI_sI, if_pos rfl, if_neg (by decide)]; exact i3) (ns' := []) (by rw [hI_sI, if_pos rfl, if_pos rfl]; rfl) b3 (by simp) (HM.fr b1 b2 (S := fun c => c = x + 8) (Fr'.sI rfl) (fun b h1 h2 => by omega)) (fun _ _ z => z) (fun i p hp => by simp at hp)) rfl)
