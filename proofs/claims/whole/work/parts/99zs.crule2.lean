theorem sp_rread {d : Nat} {h : AH} {Q : Option Value → AH → Prop} (hd : 14 ≤ d) (r n : Nat) (t : Nat → Int32) (R : Int32 × List (List (Nat × Nat) × List (Nat × Nat))) (hn : n ≤ 400) (hrn : rnM t n s0M = R) (hres : resOk R) (H : RdS h r) (HT : TxS h (r + 1) n t) (b0 : hI h (r + 5) 0 = 0) (hr : r + 5 < hN h) (k : KR h r n t (hN h + ruC R) (hU h + ruU R) R Q) : Calls d nX7_read [.ref r] h (hN h + ruC R) (hU h + ruU R) Q := by
  obtain ⟨e, rfl⟩ : ∃ e, d = e + 1 := ⟨d - 1, by omega⟩
  refine wX7_read (by omega) (by omega) (by omega) r ?_
  simp only [H.1, H.2.1, HT.1, true_and]
  refine sp_start (by omega) (r + 1) n t HT (fun h1 f1 g1 g2 T1 => ?_)
  have H1 := H.fr f1
  have HT1 := HT.fr f1 g1 (by omega)
  simp only [rV_none, rt_i, rt_b0, rt_b1, rt_v, rt_l, rt_o, rt_a, rV_none, rI_some, rL_some, rR_some, rT_some, rt_bI, hIf_sL, hIf_sR, hS_sI, hS_sL, hS_sR, hS_cpI, hR_sI, hR_sL, hR_cpI, hL_sI, hL_sR, hL_cpI, hI_sL, hI_sR, hN_sI, hN_sL, hN_sR, hN_cpI, hU_sI, hU_sL, hU_sR, hU_cpI, tn0, tn1, tn2, tn3, tn4, tn5, tn6, tn7, tn8, tn9, tn10, tn11, tn12, tn13, tn14, tn15, tn16, tn17, tn18, tn19, tn20, tn21, tn22, tn23, tn24, tn25, tn26, tn27, tn28, tn29, tn30, tn31, tn32, tn33, tn34, tn35, tn36, tn37, tn38, tn39, tn40, tn41, tn42, tn43, tn44, tn45, tn46, tn47, tn48, tn49, tn50, tn51, tn52, tn53, tn54, tn55, tn56, tn57, tn58, tn59, tn60, lH_eq, true_and, and_true, H1.1]
  have f2 : Fr' h1 (sI (sI (sI (sI (sI (sI (sI h1 r 4 0) r 5 0) r 6 0) r 7 0) r 8 0) r 9 0) r 10 0) (fun c => c = r) := ((((((Fr'.sI (S := fun c => c = r) rfl).trans (Fr'.sI rfl)).trans (Fr'.sI rfl)).trans (Fr'.sI rfl)).trans (Fr'.sI rfl)).trans (Fr'.sI rfl)).trans (Fr'.sI rfl)
  have z : ∀ j, 4 ≤ j → j ≤ 10 → hI (sI (sI (sI (sI (sI (sI (sI h1 r 4 0) r 5 0) r 6 0) r 7 0) r 8 0) r 9 0) r 10 0) r j = 0 := fun j a b => by
    simp only [hI_sI, if_true]
    have : j = 4 ∨ j = 5 ∨ j = 6 ∨ j = 7 ∨ j = 8 ∨ j = 9 ∨ j = 10 := by omega
    rcases this with rfl | rfl | rfl | rfl | rfl | rfl | rfl <;> simp
  generalize sI (sI (sI (sI (sI (sI (sI h1 r 4 0) r 5 0) r 6 0) r 7 0) r 8 0) r 9 0) r 10 0 = h2 at *
  have o2 : ∀ c, c ≠ r → ∀ j, hI h2 c j = hI h1 c j := fun c a => f2.2.2.2.2.1 c a
  have F : Fr' h h2 (RB r) := (f1.mono (fun c z => by unfold RB; omega)).trans (f2.mono (fun c z => by unfold RB; omega))
  have c0 : hI h2 (r + 5) 0 = 0 := by rw [o2 (r + 5) (by omega), f1.2.2.2.2.1 (r + 5) (by omega)]; exact b0
  refine rd_loop (by omega) r n t hn R hres n 0 s0M h2 (by show n - 0 ≤ n; omega) (Nat.le_refl _) (Nat.zero_le _) inv_0 hrn (by rw [F.2.2.1]; exact hr) (H1.fr f2) ⟨⟨z 5 (by omega) (by omega), trivial⟩, ⟨z 6 (by omega) (by omega), z 7 (by omega) (by omega)⟩, ⟨z 4 (by omega) (by omega), fun j q hq => by simp [flK] at hq⟩, ⟨z 8 (by omega) (by omega), z 9 (by omega) (by omega), z 10 (by omega) (by omega)⟩, c0, fun y => absurd y (by decide)⟩ (HT1.cg f2 (by omega) (by omega)) (T1.cg (fun j _ => o2 (r + 1) (by omega) j)) (by rw [o2 (r + 1) (by omega)]; exact g2) (by rw [F.2.2.1]) (by rw [F.2.2.2.1]) (fun h' f' m1 m2 a1 a2 a3 a4 a5 => ?_)
  have := k h' ((FrG.of F).trans f' (fun c _ z => z)) m1 m2 a1 a2 a3 a4 (by rw [← F.2.2.1]; exact a5)
  rw [F.2.2.1]
  exact this
theorem CW.rul {pz : PZT} {h h' : AH} {x : Nat} {T : TW} {cls cls' : List (List (List (Nat × Nat) × List (Nat × Nat)))} {tp tp' : List Int32} {im : Nat → Option TW} {S : Nat → Prop} (H : CW pz h x (T, cls, tp, im)) (f : FrG h h' S) (hs : ∀ c, S c → x ≤ c ∧ c ≤ x + 7) (eR : ∀ j, hR h' x j = hR h x j) (HR : cRl h' x cls') (HT : cTx h' x tp') (HD : RDR h' x) : CW pz h' x (T, cls', tp', im) := by
  obtain ⟨H1, ⟨H2, H3⟩, H4, H5, H6, H7, H8, H9, H10⟩ := H
  have w := H1.1.1
  have hx := H1.1.2.1
  have gd : ∀ c, x + 8 ≤ c → ¬ S c := fun c hc z => by have := hs c z; omega
  refine ⟨⟨⟨f.2.2.2 w, Nat.le_trans hx f.1, H1.1.2.2⟩, ⟨by rw [f.2.1 x (by omega)]; exact H1.2.1, by simp only [eR]; exact H1.2.2⟩⟩, H2.frd w H3 f (fun b h1 h2 => gd b (by omega)) (fun c hc => gd c (by omega)), HR, HT, H6.frg w hx f (gd _ (by omega)) (gd _ (by omega)) (fun c hc => gd c (by omega)), H7.frg f hx (fun c h1 h2 => gd c (by omega)), HD, H9.frg H6 w hx f (gd _ (by omega)) (gd _ (by omega)) (fun c hc => gd c (by omega)), H10.frg hx f (fun c h1 h2 => gd c (by omega))⟩
def rlC (cls : List (List (List (Nat × Nat) × List (Nat × Nat)))) (tp : List Int32) : Nat := if 6 ≤ cls.length then 0 else ruC (rlF tp)
def rlU (cls : List (List (List (Nat × Nat) × List (Nat × Nat)))) (tp : List Int32) : Nat := if 6 ≤ cls.length then 0 else ruU (rlF tp)
theorem c_ruleOp {pz : PZT} {d : Nat} {h : AH} {Q : Option Value → AH → Prop} (hd : 15 ≤ d) (x : Nat) (T : TW) (cls : List (List (List (Nat × Nat) × List (Nat × Nat)))) (tp : List Int32) (im : Nat → Option TW) (H : CW pz h x (T, cls, tp, im)) (k : ∀ h', hN h' = hN h + rlC cls tp → hU h' = hU h + rlU cls tp → CW pz h' x (T, (oRule cls tp).2.1, (oRule cls tp).2.2, im) → Q (some (.int (oRule cls tp).1)) h') : Calls d nX11_rule [.ref x] h (hN h + rlC cls tp) (hU h + rlU cls tp) Q := by
  obtain ⟨e, rfl⟩ : ∃ e, d = e + 1 := ⟨d - 1, by omega⟩
  have s0 : hS h x = (21, 11) := H.1.2.1
  have p0 : hR h x 0 = x + 1 := H.1.2.2.1
  have p1 : hR h x 1 = x + 2 := H.1.2.2.2.1
  have p2 : hR h x 2 = x + 7 := H.1.2.2.2.2.1
  have wf := H.1.1.1
  have hx := H.1.1.2.1
  obtain ⟨r1, ⟨r2, r3, r4⟩, r5⟩ := H.2.2.1
  have r1 : hI h x 3 = nI cls.length := r1
  have r3 : cls.length ≤ 6 := r3
  have HTx := H.2.2.2.1
  have hn4 : tp.length ≤ 400 := HTx.2.2.2.2.1
  have RD := H.2.2.2.2.2.2.1
  obtain ⟨q1, q2, q3, q4, q5, q6, q7, q8, q9⟩ := RD
  have lt : (nI cls.length < (6 : Int32)) = (cls.length < 6) := nI_lt_iff (b := 6) (by omega) (by decide)
  refine wX11_rule (by omega) (by omega) (by omega) x ?_
  simp only [s0, p0, r1, lt, q1, true_and]
  refine ⟨fun z => ?_, fun z => ?_⟩
  · have n6 : ¬ 6 ≤ cls.length := by omega
    have eC : rlC cls tp = ruC (rlF tp) := if_neg n6
    have eU : rlU cls tp = ruU (rlF tp) := if_neg n6
    have eo : oRule cls tp = if (rlF tp).1 = 0 then (nI cls.length, cls ++ [(rlF tp).2], []) else (-2 - (rlF tp).1, cls, []) := if_neg n6
    rw [eC, eU, eo] at k
    rw [eC, eU]
    have hres := rl_ok hn4
    have hrn : rnM (tpF tp) tp.length s0M = rlF tp := rfl
    generalize rlF tp = R at *
    refine ⟨hN h + ruC R, hU h + ruU R, Nat.le_refl _, Nat.le_refl _, ?_⟩
    refine sp_rread (by omega) (x + 1) tp.length (tpF tp) R hn4 hrn hres ⟨q1, q2, q3, q4, q5, q6, q7, q8⟩ HTx.txs q9 (by omega) (fun h1 f1 n1 u1 RS1 TX1 b1 e1 RU1 => ?_)
    have hle := f1.1
    have nx : ¬ RB (x + 1) x := by unfold RB; omega
    have g0 := f1.2.2.1 x (by omega) nx
    have s01 : hS h1 x = (21, 11) := (f1.2.1 x (by omega)).trans s0
    have p11 : hR h1 x 1 = x + 2 := (g0.1 1).trans p1
    have p21 : hR h1 x 2 = x + 7 := (g0.1 2).trans p2
    have r11 : hI h1 x 3 = nI cls.length := (g0.2.1 3).trans r1
    have st1 : hS h1 (x + 2) = (18, 7) := TX1.1
    have n27 : (x + 7 = x + 2) = False := eq_false (by omega)
    have s71 : hS h1 (x + 7) = (5, 6) := (f1.2.1 (x + 7) (by omega)).trans r2
    have f4 : Fr' h1 (sI h1 (x + 2) 1 0) (fun c => c = x + 2) := Fr'.sI rfl
    have T4 : ∀ h', Fr' h1 h' (fun c => c = x + 2 ∨ c = x) → hI h' (x + 2) 1 = 0 → cTx h' x [] := fun h' f e => by
      refine ⟨by rw [f.2.1]; exact TX1.2.1, by rw [f.1]; exact TX1.1, e, by rw [f.1]; exact TX1.2.2.1, by simp, fun i b hb => by simp at hb⟩
    have RDf : ∀ h', (∀ c, c ≤ x + 6 → hS h' c = hS h1 c) → (∀ j, hR h' (x + 1) j = hR h1 (x + 1) j) → hI h' (x + 6) 0 = hI h1 (x + 6) 0 → RDR h' x := fun h' a b c => by
      obtain ⟨x1, x2, x3, x4, x5, x6, x7, x8⟩ := RS1
      exact ⟨by rw [a _ (by omega)]; exact x1, by rw [b]; exact x2, by rw [b]; exact x3, by rw [b]; exact x4, by rw [b]; exact x5, by rw [a _ (by omega)]; exact x6, by rw [a _ (by omega)]; exact x7, by rw [a _ (by omega)]; exact x8, by rw [c]; exact b1⟩
    simp only [rR_some, lH_eq, rt_i, rt_b0, rt_b1, rt_v, rt_l, rt_o, rt_a, rV_none, rI_some, rL_some, rR_some, rT_some, rt_bI, hIf_sL, hIf_sR, hS_sI, hS_sL, hS_sR, hS_cpI, hR_sI, hR_sL, hR_cpI, hL_sI, hL_sR, hL_cpI, hI_sL, hI_sR, hN_sI, hN_sL, hN_sR, hN_cpI, hU_sI, hU_sL, hU_sR, hU_cpI, tn0, tn1, tn2, tn3, tn4, tn5, tn6, tn7, tn8, tn9, tn10, tn11, tn12, tn13, tn14, tn15, tn16, tn17, tn18, tn19, tn20, tn21, tn22, tn23, tn24, tn25, tn26, tn27, tn28, tn29, tn30, tn31, tn32, tn33, tn34, tn35, tn36, tn37, tn38, tn39, tn40, tn41, tn42, tn43, tn44, tn45, tn46, tn47, tn48, tn49, tn50, tn51, tn52, tn53, tn54, tn55, tn56, tn57, tn58, tn59, tn60, lH_eq, true_and, and_true, s01, p11, p21, st1, s71]
    have hx2 : (x = x + 2) = False := eq_false (by omega)
    simp only [hI_sI, hx2, if_false, r11]
    by_cases y : R.1 = 0
    · have er : ruR (hN h) R = hN h := if_pos y
      rw [if_pos y] at k
      have sN : hS h1 (hN h) = (16, 3) := by obtain ⟨n1, -, -, -, h4, -⟩ := RU1 y; exact h4
      have hq : qCl 5 = 6 := rfl
      have c1 : ruC R = 3 := if_pos y
      simp only [er, sN, hq, vp_in_nI (show cls.length < 6 by omega) (show 6 < 2 ^ 31 by omega), nI_clamp (show cls.length < 2 ^ 31 by omega)]
      refine ⟨fun _ => ?_, fun w => absurd w (by omega)⟩
      have es : nI cls.length + 1 - 1 = nI cls.length := by rw [nI_1]; exact nI_sub1 _
      refine ⟨⟨by decide, by decide⟩, ?_⟩
      have hxx : (x = x + 7) = False := eq_false (by omega)
      simp only [hR_sI, hS_sI, hS_sR, hI_sR, hI_sI, hx2, hxx, if_false, if_true, s01, r11, es, hN_sI, hU_sI, hN_sR, hU_sR, true_and, rt_i, nI_1]
      have F6 : FrG h1 (sI (sR (sI h1 (x + 2) 1 0) (x + 7) cls.length (hN h)) x 3 (nI (cls.length + 1))) (fun c => c = x ∨ c = x + 2 ∨ c = x + 7) := frg_sI (frg_sR (frg_sI (FrG.refl _ _) (fun _ => Or.inr (Or.inl rfl))) (fun _ => Or.inr (Or.inr rfl))) (fun _ => Or.inl rfl)
      have F : FrG h (sI (sR (sI h1 (x + 2) 1 0) (x + 7) cls.length (hN h)) x 3 (nI (cls.length + 1))) (fun c => x ≤ c ∧ c ≤ x + 7) := (f1.mono (fun c _ z => by unfold RB at z; omega)).trans F6 (fun c _ z => by omega)
      have w1 := f1.2.2.2 wf
      have e7 : ∀ j, hR (sI (sR (sI h1 (x + 2) 1 0) (x + 7) cls.length (hN h)) x 3 (nI (cls.length + 1))) (x + 7) j = if j = cls.length then hN h else hR h (x + 7) j := fun j => by
        rw [hR_sI, hR_sR, if_pos rfl, hR_sI, (f1.2.2.1 (x + 7) (by omega) (by unfold RB; omega)).1]
      have e3 : hI (sI (sR (sI h1 (x + 2) 1 0) (x + 7) cls.length (hN h)) x 3 (nI (cls.length + 1))) x 3 = nI (cls.length + 1) := by rw [hI_sI, if_pos rfl, if_pos rfl]
      have eT : cTx (sI (sR (sI h1 (x + 2) 1 0) (x + 7) cls.length (hN h)) x 3 (nI (cls.length + 1))) x [] := by
        refine ⟨?_, TX1.1, ?_, TX1.2.2.1, by simp, fun i b hb => by simp at hb⟩
        · rw [hR_sI, hR_sR, if_neg (by omega), hR_sI]; exact TX1.2.1
        · rw [hI_sI, if_neg (by omega), hI_sR, hI_sI, if_pos rfl, if_pos rfl]; rfl
      have eD : RDR (sI (sR (sI h1 (x + 2) 1 0) (x + 7) cls.length (hN h)) x 3 (nI (cls.length + 1))) x := RDf _ (fun c _ => rfl) (fun j => by rw [hR_sI, hR_sR, if_neg (by omega), hR_sI]) (by rw [hI_sI, if_neg (by omega), hI_sR, hI_sI, if_neg (by omega)])
      have eR : ∀ j, hR (sI (sR (sI h1 (x + 2) 1 0) (x + 7) cls.length (hN h)) x 3 (nI (cls.length + 1))) x j = hR h x j := fun j => by rw [hR_sI, hR_sR, if_neg (by omega), hR_sI]; exact g0.1 j
      have s7 : hS (sI (sR (sI h1 (x + 2) 1 0) (x + 7) cls.length (hN h)) x 3 (nI (cls.length + 1))) (x + 7) = (5, 6) := s71
      have RU := (RU1 y).frg w1 F6 (fun b c1 c2 z => by omega)
      have n6' : hN (sI (sR (sI h1 (x + 2) 1 0) (x + 7) cls.length (hN h)) x 3 (nI (cls.length + 1))) = hN h + ruC R := n1
      have u6' : hU (sI (sR (sI h1 (x + 2) 1 0) (x + 7) cls.length (hN h)) x 3 (nI (cls.length + 1))) = hU h + ruU R := u1
      generalize sI (sR (sI h1 (x + 2) 1 0) (x + 7) cls.length (hN h)) x 3 (nI (cls.length + 1)) = h6 at *
      rw [nI_sub1]
      refine ⟨n1, u1, k h6 n6' u6' (H.rul F (fun c z => z) eR ⟨by rw [e3]; simp, ⟨s7, by simp; omega, fun i c hc => ?_⟩, fun i c hc => ?_⟩ eT eD)⟩
      · rw [e7]
        by_cases u : i < cls.length
        · rw [List.getElem?_append_left u] at hc
          rw [if_neg (by omega)]
          exact ⟨(r4 i c hc).1, (r4 i c hc).2.frg wf F (fun b c1 c2 z => by have := r5 i c hc; omega)⟩
        · have := getq_lt hc
          simp at this
          have e : i = cls.length := by omega
          subst e
          rw [List.getElem?_append_right (Nat.le_refl _)] at hc
          simp at hc
          rw [if_pos rfl]
          exact ⟨by omega, hc ▸ RU⟩
      · rw [e7]
        by_cases u : i < cls.length
        · rw [List.getElem?_append_left u] at hc
          rw [if_neg (by omega)]
          exact r5 i c hc
        · have := getq_lt hc
          simp at this
          rw [if_pos (by omega)]
          exact hx
    · have er : ruR (hN h) R = 0 := if_neg y
      rw [if_neg y] at k
      simp only [er, if_true, Nat.reduceEqDiff, if_false, e1]
      refine ⟨fun w => (by first | exact absurd rfl w | exact absurd trivial w), fun _ => ?_⟩
      have F' : FrG h (sI h1 (x + 2) 1 0) (RB (x + 1)) := f1.trans (FrG.of f4) (fun c _ z => by unfold RB; omega)
      have F : FrG h (sI h1 (x + 2) 1 0) (fun c => x ≤ c ∧ c ≤ x + 7) := F'.mono (fun c _ z => by unfold RB at z; omega)
      have CC : CW pz (sI h1 (x + 2) 1 0) x (T, cls, [], im) := H.rul F (fun c z => z) (fun j => by rw [hR_sI]; exact g0.1 j) (H.2.2.1.frg wf hx F' (by unfold RB; omega) (by unfold RB; omega) (fun i c hc b c1 c2 z => by have := r5 i c hc; unfold RB at z; omega)) (T4 _ (f4.mono (fun c z => Or.inl z)) (by rw [hI_sI, if_pos rfl, if_pos rfl])) (RDf _ (fun c _ => rfl) (fun j => rfl) (by rw [hI_sI, if_neg (by omega)]))
      exact ⟨n1, u1, k (sI h1 (x + 2) 1 0) n1 u1 CC⟩
  · have y6 : 6 ≤ cls.length := by omega
    have eC : rlC cls tp = 0 := if_pos y6
    have eU : rlU cls tp = 0 := if_pos y6
    have eo : oRule cls tp = (-1, cls, tp) := if_pos y6
    rw [eC, eU, eo] at k
    rw [eC, eU, rt_i]
    exact ⟨rfl, rfl, k h rfl rfl H⟩
