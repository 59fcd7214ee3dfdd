/-! a town becomes another -/
theorem bc_loop {d E1 E2 : Nat} {Q : Option Value → AH → Prop} (hd : 7 ≤ d) (t u : Nat) (h0 : AH) (w0 : wfA h0) (nr nw : Nat) (A : PC) (fo x : Int32) (M : PC) (ps : List PC) (ns ms : List (Nat × Nat × Int32)) (hn : t ≠ u) (ht : t + 10 < hN h0) (hE1 : hN h0 + 6 * kpN (hR h0 (t + 7)) ps.length = E1) (hE2 : hU h0 + 33 * kpN (hR h0 (t + 7)) ps.length = E2) (k : ∀ h', FrG h0 h' (blkS h0 t) → hN h' = E1 → hU h' = E2 → bfNew h0 h' t → (∀ j, ps.length ≤ j → hR h' (t + 7) j = hR h0 (t + 7) j) → (∀ j, hR h' t j = hR h0 t j) → TownIs h' t (nr, nw, A, fo, x, M, ps, ns) → Q none h') : ∀ (n i : Nat) (h : AH), i + n = ps.length → FrG h0 h (blkS h0 t) → hN h = hN h0 + 6 * kpN (hR h0 (t + 7)) i → hU h = hU h0 + 33 * kpN (hR h0 (t + 7)) i → (∀ j, i ≤ j → hR h (t + 7) j = hR h0 (t + 7) j) → bfNew h0 h t → (∀ j, hR h t j = hR h0 t j) → hI h t 5 = nI ps.length → TownQ h t (nr, nw, A, fo, x, M, ps.take i, ms) → TownIs h u (nr, nw, A, fo, x, M, ps, ns) → sepT h t u → sepT h u t → Reach d nX9_become (45, [.ref t, .ref u, .int (nI i)], []) h E1 E2 Q
  | 0, i, h, hi, f, n1, n2, q1, q2, qr, q5, HT, HU, s1, s2 => by
    have : i = ps.length := by omega
    subst this
    rw [List.take_length] at HT
    have H0 := HT.1
    have U0 := HU.1
    obtain ⟨-, ⟨b1, b2, b3, b4⟩, UH, ⟨u1, u2, u3, u4⟩, UM, UF, UP, UN⟩ := HU
    have dtu := twn_dis H0 U0 hn
    refine wX9_become_45 (by omega) t u (nI ps.length) ?_
    have h5 : (nI ps.length ≤ nI ps.length) = (ps.length ≤ ps.length) := nI_le_iff (by omega) (by omega)
    simp only [rt_i, rt_b0, rt_b1, rt_v, rt_l, rt_o, rt_a, rV_none, rI_some, rL_some, rR_some, rT_some, rt_bI, hIf_sL, hIf_sR, hS_sI, hS_sL, hS_sR, hS_cpI, hR_sI, hR_sL, hR_cpI, hL_sI, hL_sR, hL_cpI, hI_sL, hI_sR, hN_sI, hN_sL, hN_sR, hN_cpI, hU_sI, hU_sL, hU_sR, hU_cpI, tn0, tn1, tn2, tn3, tn4, tn5, tn6, tn7, tn8, tn9, tn10, tn11, tn12, tn13, tn14, tn15, tn16, tn17, tn18, tn19, tn20, tn21, tn22, tn23, tn24, tn25, tn26, tn27, tn28, tn29, tn30, tn31, tn32, tn33, tn34, tn35, tn36, tn37, tn38, tn39, tn40, tn41, tn42, tn43, tn44, tn45, tn46, tn47, tn48, tn49, tn50, tn51, tn52, tn53, tn54, tn55, tn56, tn57, tn58, tn59, tn60, lH_eq, true_and, and_true, q5, h5, twq_0 H0, twq_1 H0, twq_2 H0, twq_3 H0, twq_4 H0, twq_5 H0, twq_6 H0, twq_7 H0, twq_8 H0, twq_9 H0, twq_10 H0, twq_0 U0, twq_1 U0, twq_2 U0, twq_3 U0, twq_4 U0, twq_5 U0, twq_6 U0, twq_7 U0, twq_8 U0, twq_9 U0, twq_10 U0, show ¬ (0 : Int32) < 0 by decide, show ¬ (10 : Int32) < 0 by decide, not_false_eq_true, Nat.zero_add, Nat.le_refl]
    refine ⟨fun _ => ?_, fun z => absurd (by trivial) z⟩
    have e9 : ∀ h1 : AH, Fr' h h1 (fun c => c = t + 8 ∨ c = t + 9 ∨ c = t + 10) → hI h1 u 9 = nI ns.length := fun h1 f1 => by rw [f1.2.2.2.2.1 u (by omega)]; exact u4
    have fC : Fr' h (cpI (cpI (cpI h (u + 8) 0 (t + 8) 0 10) (u + 9) 0 (t + 9) 0 10) (u + 10) 0 (t + 10) 0 10) (fun c => c = t + 8 ∨ c = t + 9 ∨ c = t + 10) := ((Fr'.cpI (Or.inl rfl)).trans (Fr'.cpI (Or.inr (Or.inl rfl)))).trans (Fr'.cpI (Or.inr (Or.inr rfl)))
    rw [e9 _ fC]
    have fF : Fr' h (sI (cpI (cpI (cpI h (u + 8) 0 (t + 8) 0 10) (u + 9) 0 (t + 9) 0 10) (u + 10) 0 (t + 10) 0 10) t 9 (nI ns.length)) (fun c => c = t ∨ c = t + 8 ∨ c = t + 9 ∨ c = t + 10) := (fC.mono (fun c z => Or.inr z)).trans (Fr'.sI (Or.inl rfl))
    have eT : ∀ j, hI (cpI (cpI (cpI h (u + 8) 0 (t + 8) 0 10) (u + 9) 0 (t + 9) 0 10) (u + 10) 0 (t + 10) 0 10) t j = hI h t j := fC.2.2.2.2.1 t (by omega)
    have HT2 := HT.notes (ns' := ns) fF (fun j hj => by rw [hI_sI, if_pos rfl, if_neg hj, eT]) (by rw [hI_sI, if_pos rfl, if_pos rfl]) b4 (fun k q hk => by
      have hl := getq_lt hk
      have := UN k q hk
      rw [hI_sI, if_neg (by omega), hI_sI, if_neg (by omega), hI_sI, if_neg (by omega)]
      simp only [hI_cp0, show (t + 8 = t + 10) = False by simp, show (t + 8 = t + 9) = False by simp, show (t + 9 = t + 10) = False by simp, show (t + 9 = t + 8) = False by simp, show (t + 10 = t + 9) = False by simp, show (u + 9 = t + 8) = False from eq_false (by omega), show (u + 10 = t + 8) = False from eq_false (by omega), show (u + 10 = t + 9) = False from eq_false (by omega), if_true, if_false, show k < 10 by omega]
      exact this)
    have HT3 := HT2.is (by rw [hI_sI, if_pos rfl, if_neg (by decide), eT]; exact q5)
    refine ⟨n1.trans hE1, n2.trans hE2, k _ (f.trans (FrG.of fF) (fun c _ z => Or.inl (by omega))) (n1.trans hE1) (n2.trans hE2) (fun i hi hz => q2 i hi hz) (fun j hj => q1 j hj) qr HT3⟩
  | n + 1, i, h, hi, f, n1, n2, q1, q2, qr, q5, HT, HU, s1, s2 => by
    have H0 := HT.1
    have U0 := HU.1
    have HU2 := HU
    obtain ⟨-, ⟨b1, b2, b3, b4⟩, UH, ⟨u1, u2, u3, u4⟩, UM, UF, UP, UN⟩ := HU
    have dtu := twn_dis H0 U0 hn
    have w := f.2.2.2 w0
    have HF : BfOk h t := HT.2.2.2.2.2.1
    obtain ⟨N, hN0⟩ : ∃ N, ps[i]? = some N := ⟨ps[i]'(by omega), List.getElem?_eq_getElem (by omega)⟩
    obtain ⟨p1, p2⟩ := UP i N hN0
    have hl : (ps.take i).length = i := by rw [List.length_take]; omega
    have lt := H0.lt w
    refine wX9_become_45 (by omega) t u (nI i) ?_
    have h5 : (nI ps.length ≤ nI i) = (ps.length ≤ i) := nI_le_iff (by omega) (by omega)
    simp only [rt_i, rt_b0, rt_b1, rt_v, rt_l, rt_o, rt_a, rV_none, rI_some, rL_some, rR_some, rT_some, rt_bI, hIf_sL, hIf_sR, hS_sI, hS_sL, hS_sR, hS_cpI, hR_sI, hR_sL, hR_cpI, hL_sI, hL_sR, hL_cpI, hI_sL, hI_sR, hN_sI, hN_sL, hN_sR, hN_cpI, hU_sI, hU_sL, hU_sR, hU_cpI, tn0, tn1, tn2, tn3, tn4, tn5, tn6, tn7, tn8, tn9, tn10, tn11, tn12, tn13, tn14, tn15, tn16, tn17, tn18, tn19, tn20, tn21, tn22, tn23, tn24, tn25, tn26, tn27, tn28, tn29, tn30, tn31, tn32, tn33, tn34, tn35, tn36, tn37, tn38, tn39, tn40, tn41, tn42, tn43, tn44, tn45, tn46, tn47, tn48, tn49, tn50, tn51, tn52, tn53, tn54, tn55, tn56, tn57, tn58, tn59, tn60, lH_eq, true_and, and_true, q5, h5, twq_0 H0, twq_1 H0, twq_2 H0, twq_3 H0, twq_4 H0, twq_5 H0, twq_6 H0, twq_7 H0, twq_8 H0, twq_9 H0, twq_10 H0, twq_0 U0, twq_1 U0, twq_2 U0, twq_3 U0, twq_4 U0, twq_5 U0, twq_6 U0, twq_7 U0, twq_8 U0, twq_9 U0, twq_10 U0, vp_in_nI (show i < 20 by omega) (show 20 < 2 ^ 31 by omega), nI_clamp (show i < 2 ^ 31 by omega)]
    have eK : hR h (t + 7) i = hR h0 (t + 7) i := q1 i (Nat.le_refl i)
    have e1 : kpE h t i = 6 * (if hR h0 (t + 7) i = 0 then 1 else 0) := by simp only [kpE, eK]; split <;> rfl
    have e2 : kpU h t i = 33 * (if hR h0 (t + 7) i = 0 then 1 else 0) := by simp only [kpU, eK]; split <;> rfl
    have kS : kpN (hR h0 (t + 7)) (i + 1) = kpN (hR h0 (t + 7)) i + if hR h0 (t + 7) i = 0 then 1 else 0 := rfl
    have kM := kpN_mono (f := hR h0 (t + 7)) ps.length (show i + 1 ≤ ps.length by omega)
    refine ⟨fun z => absurd z (by omega), fun _ => ⟨by decide, by decide, hN h + kpE h t i, hU h + kpU h t i, by omega, by omega, ?_⟩⟩
    · have key := keep_now (h := h) (d := d) (Q := fun r6 h5 => rV r6 (Reach d 97 (45, [.ref t, .ref u, .int (nI i + 1)], []) h5 E1 E2 Q)) (by omega) t (hR h (u + 7) i) nr nw A fo x M N (ps.take i) ms w HT (by omega) p2 (fun y => by rw [hl] at y ⊢; exact (s1 i (by omega) y).2 i (by omega)) (fun h1 f1 g1 g2 g3 g7 g4 g5 g6 => ?_)
      · rw [hl] at key
        exact key
      · rw [hl] at g1 g2
        rw [rV_none, nI_1]
        have fb : FrG h h1 (blkS h t) := f1.mono (fun c _ z => ownS_blk z)
        have HU1 : TownIs h1 u (nr, nw, A, fo, x, M, ps, ns) := HT.sep w HU2 hn s1 s2 fb
        have U7 : ∀ j, hR h1 (u + 7) j = hR h (u + 7) j := by
          have := U0.lt w
          refine (fb.2.2.1 (u + 7) (by omega) (fun z => ?_)).1
          rcases z with z | ⟨i, hi, z1, z2⟩
          · omega
          · have := twn_mom_dis U0 (HF i hi z1).1 (s1 i hi z1).1
            unfold mS at z2
            omega
        have hle0 := f.1
        refine bc_loop hd t u h0 w0 nr nw A fo x M ps ns ms hn ht hE1 hE2 k n (i + 1) h1 (by omega) (f.trans fb (fun c hc z => ?_)) (by rw [g1, n1, e1, kS]; omega) (by rw [g2, n2, e2, kS]; omega) ?_ ?_ (fun j => (g4 j).trans (qr j)) (by rw [g5]; exact q5) ?_ HU1 ?_ ?_
        · rcases z with z | ⟨j, hj, z1, z2⟩
          · exact Or.inl z
          · rcases q2 j hj z1 with ⟨l, hl, el⟩ | el
            · exact Or.inr ⟨l, hl, by rw [el]; exact z1, by rw [el]; exact z2⟩
            · unfold mS at z2
              omega
        · intro j hj
          rw [g7 j (by omega)]
          exact q1 j (by omega)
        · intro j hj hz
          rcases g3 j hj hz with ⟨l, hl, el⟩ | el
          · rw [← el] at hz ⊢
            exact q2 l hl hz
          · exact Or.inr (by omega)
        · have et : ps.take (i + 1) = ps.take i ++ [N] := by
            rw [List.take_succ, hN0]; rfl
          rw [et]
          exact g6
        · intro j hj hz
          rcases g3 j hj hz with ⟨l, hl, el⟩ | el
          · rw [← el] at hz ⊢
            simp only [U7]
            exact s1 l hl hz
          · have := U0.lt w
            refine ⟨by omega, fun l hl e => ?_⟩
            rw [U7] at e
            have hzl : hR h (u + 7) l ≠ 0 := by omega
            have := (UF l hl hzl).1.lt w
            omega
        · intro j hj hz
          rw [U7] at hz ⊢
          refine ⟨(s2 j hj hz).1, fun l hl e => ?_⟩
          by_cases c : hR h1 (t + 7) l = 0
          · omega
          · rcases g3 l hl c with ⟨l', hl', el⟩ | el
            · exact (s2 j hj hz).2 l' hl' (e.trans el.symm)
            · have := (UF j hj hz).1.lt w
              omega
