/-! the reference's rule -/
theorem MRul.sl {h h' : AH} {m i : Nat} {c : List (List (Nat × Nat) × List (Nat × Nat))} (H : MRul h m i c) (h1 : ∀ b, m + 22 ≤ b → b ≤ m + 23 → ∀ j, 300 * i ≤ j → j < 300 * i + 300 → hI h' b j = hI h b j) (h2 : ∀ b, m + 25 ≤ b → b ≤ m + 27 → ∀ j, 12 * i ≤ j → j < 12 * i + 12 → hI h' b j = hI h b j) (h3 : hI h' (m + 24) i = hI h (m + 24) i) : MRul h' m i c := ⟨H.1, H.2.1, h3.trans H.2.2.1, rcls_cg (fun j a b => ⟨h1 (m + 22) (by omega) (by omega) j a b, h1 (m + 23) (by omega) (by omega) j a b⟩) (fun j a b => ⟨h2 (m + 25) (by omega) (by omega) j a b, h2 (m + 26) (by omega) (by omega) j a b, h2 (m + 27) (by omega) (by omega) j a b⟩) c 0 0 (by have := H.2.1; omega) H.2.2.2⟩
theorem RW.rul {h h' : AH} {m : Nat} {T : TW} {cls cls' : List (List (List (Nat × Nat) × List (Nat × Nat)))} {tp : List Int32} {im : Nat → Option TW} {S : Nat → Prop} (H : RW h m (T, cls, tp, im)) (f : Fr' h h' S) (hs : ∀ c, S c → c = m ∨ (m + 22 ≤ c ∧ c ≤ m + 28)) (e0 : ∀ j, j = 30 ∨ j = 45 → hI h' m j = hI h m j) (e21 : hI h' m 21 = 0) (e25 : hI h' m 25 = nI cls'.length) (l6 : cls'.length ≤ 6) (hr : ∀ (i : Nat) (c : List (List (Nat × Nat) × List (Nat × Nat))), cls'[i]? = some c → MRul h' m i c) : RW h' m (T, cls', [], im) := by
  obtain ⟨w1, w2, w3, -, -, w10, w11⟩ := H
  have g : ∀ c, ¬ (c = m ∨ (m + 22 ≤ c ∧ c ≤ m + 28)) → ∀ j, hI h' c j = hI h c j := fun c hc j => f.2.2.2.2.1 c (fun z => hc (hs c z)) j
  refine ⟨w1.fr f, w2.cg (fun r hr j hj => ?_), fun j hj => (g (m + 32) (by omega) j).trans (w3 j hj), ⟨e25, l6, hr⟩, ⟨e21, by simp, fun i b hb => by simp at hb⟩, fun s hs => (w10 s hs).cg hs (g (m + 43) (by omega) s) (fun j _ hj => g (m + 42) (by omega) j), (e0 30 (by decide)).trans w11⟩
  unfold refP
  split
  · exact e0 45 (by decide)
  · have h1 := rows_3 r hr
    exact g _ (by omega) j
theorem m_ruleM {d : Nat} {h : AH} {Q : Option Value → AH → Prop} (hd : 15 ≤ d) (m : Nat) (T : TW) (cls : List (List (List (Nat × Nat) × List (Nat × Nat)))) (tp : List Int32) (im : Nat → Option TW) (H : RW h m (T, cls, tp, im)) (hb : ∀ b ∈ tp, byB b) (k : ∀ h', Fr' h h' (MZ m) → RW h' m (T, (oRule cls tp).2.1, (oRule cls tp).2.2, im) → Q (some (.int (oRule cls tp).1)) h') : Calls d nX12_rule [.ref m] h (hN h) (hU h) Q := by
  obtain ⟨e, rfl⟩ : ∃ e, d = e + 1 := ⟨d - 1, by omega⟩
  have HM := H.mod
  have HT := H.mtp hb
  have hn4 := HT.2.2.1
  have e25 : hI h m 25 = nI cls.length := H.2.2.2.1.1
  have l6 : cls.length ≤ 6 := H.2.2.2.1.2.1
  have hR := H.2.2.2.1.2.2
  have e30 : hI h m 30 = 12 := H.2.2.2.2.2.2
  have c6 : (nI cls.length = (6 : Int32)) = (cls.length = 6) := nI_eq_iff (b := 6) (by omega) (by decide)
  refine wX12_rule (by omega) m ?_
  simp only [mdq_0 HM, e25, c6, lH_eq, hS_sI, rt_i, rt_b0, rt_b1, rt_v, rt_l, rt_o, rt_a, rV_none, rI_some, rL_some, rR_some, rT_some, true_and]
  refine ⟨fun z => ?_, fun z => ?_⟩
  · have eo : oRule cls tp = if (rlF tp).1 = 0 then (nI cls.length, cls ++ [(rlF tp).2], []) else (-2 - (rlF tp).1, cls, []) := by unfold oRule; rw [if_neg (by omega)]
    rw [eo] at k
    have rok := rl_ok hn4
    have f1 : Fr' h (sI h m 24 (nI cls.length)) (fun c => c = m) := Fr'.sI rfl
    have g1 : ∀ j, j ≠ 24 → hI (sI h m 24 (nI cls.length)) m j = hI h m j := fun j hj => by rw [hI_sI, if_pos rfl, if_neg hj]
    have e24 : hI (sI h m 24 (nI cls.length)) m 24 = nI cls.length := by rw [hI_sI, if_pos rfl, if_pos rfl]
    generalize sI h m 24 (nI cls.length) = h1 at *
    refine m_starts (by omega) m (HM.fr f1) (fun h2 f2 g2 a22 a23 a26 a27 a28 => ?_)
    rw [rV_none]
    have f12 := f1.trans f2
    have gg : ∀ j, j ≠ 22 → j ≠ 23 → j ≠ 24 → j ≠ 26 → j ≠ 27 → j ≠ 28 → hI h2 m j = hI h m j := fun j a b c d e f => (g2 j a b d e f).trans (g1 j c)
    have T2 : MTp h2 m tp.length (tpF tp) := HT.fr f12 (gg 21 (by decide) (by decide) (by decide) (by decide) (by decide) (by decide)) (by omega)
    have M2 : MM h2 m tp.length cls.length (tpF tp) (0, 0, [], 0, [], [], []) := ⟨T2, ⟨a22, Nat.zero_le _⟩, a23, ⟨(g2 24 (by decide) (by decide) (by decide) (by decide) (by decide)).trans e24, by omega⟩, ⟨a26, fun j q hq => by simp [flK] at hq⟩, a28, inv_0⟩
    have e302 := (gg 30 (by decide) (by decide) (by decide) (by decide) (by decide) (by decide)).trans e30
    have e242 : hI h2 m 24 = nI cls.length := M2.2.2.2.1.1
    have e252 := (gg 25 (by decide) (by decide) (by decide) (by decide) (by decide) (by decide)).trans e25
    have rn : rnM (tpF tp) tp.length (0, 0, [], 0, [], [], []) = rlF tp := rfl
    generalize rlF tp = R at *
    refine rlM_loop (by omega) m tp.length cls.length (tpF tp) R 13 0 0 [] h2 (by simp) M2 a27 (fun i c hc => by simp at hc) rn e302 (fun h3 v1 f3 HM3 e23 hz => ?_)
    have e243 : hI h3 m 24 = nI cls.length := (f3.2.1 24 (by decide) (by decide) (by decide) (by decide) (by decide) (by decide)).trans e242
    have e253 : hI h3 m 25 = nI cls.length := (f3.2.1 25 (by decide) (by decide) (by decide) (by decide) (by decide) (by decide)).trans e252
    have ne24 : (m + 24 = m) = False := eq_false (by omega)
    have ne24' : (m = m + 24) = False := eq_false (by omega)
    have n2421 : ((24 : Nat) = 21) = False := eq_false (by decide)
    have n2521 : ((25 : Nat) = 21) = False := eq_false (by decide)
    have n2321 : ((23 : Nat) = 21) = False := eq_false (by decide)
    have n2325 : ((23 : Nat) = 25) = False := eq_false (by decide)
    have lt6 : cls.length < 6 := by omega
    refine wX12_rule_27 (by omega) m (nI v1) 0 ⟨fun _ => ?_, fun z => absurd rfl z⟩
    simp only [rt_i, rt_b0, rt_b1, rt_v, rt_l, rt_o, rt_a, rV_none, rI_some, rL_some, rR_some, rT_some, rt_bI, hIf_sL, hIf_sR, hS_sI, hS_sL, hS_sR, hS_cpI, hR_sI, hR_sL, hR_cpI, hL_sI, hL_sR, hL_cpI, hI_sL, hI_sR, hN_sI, hN_sL, hN_sR, hN_cpI, hU_sI, hU_sL, hU_sR, hU_cpI, tn0, tn1, tn2, tn3, tn4, tn5, tn6, tn7, tn8, tn9, tn10, tn11, tn12, tn13, tn14, tn15, tn16, tn17, tn18, tn19, tn20, tn21, tn22, tn23, tn24, tn25, tn26, tn27, tn28, tn29, tn30, tn31, tn32, tn33, tn34, tn35, tn36, tn37, tn38, tn39, tn40, tn41, tn42, tn43, tn44, tn45, tn46, tn47, tn48, tn49, tn50, tn51, tn52, tn53, tn54, tn55, tn56, tn57, tn58, tn59, tn60, lH_eq, true_and, and_true, mdq_0 HM3, mdq_34 HM3, mds_34 HM3, hI_sI, ne24', n2421, n2521, n2321, n2325, if_true, if_false, e243, e253, e23, vp_in_nI (show cls.length < 6 by omega) (show 6 < 2 ^ 31 by omega), nI_clamp (show cls.length < 2 ^ 31 by omega)]
    have f4 : ∀ v, Fr' h3 (sI (sI (sI h3 m 21 0) (m + 24) cls.length (nI v1)) m 25 v) (fun c => c = m ∨ (m + 22 ≤ c ∧ c ≤ m + 28)) := fun v => ((Fr'.sI (S := fun c => c = m ∨ (m + 22 ≤ c ∧ c ≤ m + 28)) (Or.inl rfl)).trans (Fr'.sI (by omega))).trans (Fr'.sI (Or.inl rfl))
    have F : ∀ v, Fr' h (sI (sI (sI h3 m 21 0) (m + 24) cls.length (nI v1)) m 25 v) (fun c => c = m ∨ (m + 22 ≤ c ∧ c ≤ m + 28)) := fun v => ((f12.mono (fun c z => Or.inl z)).trans f3.1).trans (f4 v)
    have gm : ∀ v j, j ≠ 21 → j ≠ 25 → hI (sI (sI (sI h3 m 21 0) (m + 24) cls.length (nI v1)) m 25 v) m j = hI h3 m j := fun v j a b => by rw [hI_sI, if_pos rfl, if_neg b, hI_sI, if_neg (by omega), hI_sI, if_pos rfl, if_neg a]
    have g25 : ∀ v, hI (sI (sI (sI h3 m 21 0) (m + 24) cls.length (nI v1)) m 25 v) m 25 = v := fun v => by rw [hI_sI, if_pos rfl, if_pos rfl]
    have g21 : ∀ v, hI (sI (sI (sI h3 m 21 0) (m + 24) cls.length (nI v1)) m 25 v) m 21 = 0 := fun v => by rw [hI_sI, if_pos rfl, if_neg (by decide), hI_sI, if_neg (by omega), hI_sI, if_pos rfl, if_pos rfl]
    have g24 : ∀ v j, hI (sI (sI (sI h3 m 21 0) (m + 24) cls.length (nI v1)) m 25 v) (m + 24) j = if j = cls.length then nI v1 else hI h3 (m + 24) j := fun v j => by
      have e0 : hI (sI h3 m 21 0) (m + 24) j = hI h3 (m + 24) j := by rw [hI_sI, if_neg (by omega)]
      rw [hI_sI, if_neg (by omega), hI_sI, if_pos rfl, e0]
    have go : ∀ v b, b ≠ m → b ≠ m + 24 → ∀ j, hI (sI (sI (sI h3 m 21 0) (m + 24) cls.length (nI v1)) m 25 v) b j = hI h3 b j := fun v b h1 h2 j => by rw [hI_sI, if_neg (by omega), hI_sI, if_neg (by omega), hI_sI, if_neg (by omega)]
    have em : ∀ v j, j = 30 ∨ j = 45 → hI (sI (sI (sI h3 m 21 0) (m + 24) cls.length (nI v1)) m 25 v) m j = hI h m j := fun v j hj => (gm v j (by omega) (by omega)).trans ((f3.2.1 j (by omega) (by omega) (by omega) (by omega) (by omega) (by omega)).trans (gg j (by omega) (by omega) (by omega) (by omega) (by omega) (by omega)))
    have fz : ∀ v, Fr' h (sI (sI (sI h3 m 21 0) (m + 24) cls.length (nI v1)) m 25 v) (MZ m) := fun v => (F v).mono (fun c z => by unfold MZ; omega)
    have old : ∀ v i c, cls[i]? = some c → MRul (sI (sI (sI h3 m 21 0) (m + 24) cls.length (nI v1)) m 25 v) m i c := fun v i c hc => by
      have hi := getq_lt hc
      have o2 : ∀ b, b ≠ m → ∀ j, hI h2 b j = hI h b j := fun b hb j => f12.2.2.2.2.1 b hb j
      refine (hR i c hc).sl (fun b h1 h2 j h3 h4 => ?_) (fun b h1 h2 j h3 h4 => ?_) ?_
      · rw [go v b (by omega) (by omega), f3.2.2.1 b h1 h2 j (by omega), o2 b (by omega)]
      · rw [go v b (by omega) (by omega), f3.2.2.2.2 b h1 h2 j (by omega), o2 b (by omega)]
      · rw [g24, if_neg (by omega), f3.2.2.2.1, o2 _ (by omega)]
    have s1 : nI cls.length + 1 - 1 = nI cls.length := by rw [nI_1]; exact nI_sub1 _
    have s0 : nI cls.length + 0 = nI cls.length := Int32.add_zero _
    rcases rok with ⟨r0, ru⟩ | ⟨r1, r2⟩
    · rw [if_pos r0] at k
      obtain ⟨ev, E3, A3⟩ := hz r0
      refine ⟨fun y => absurd r0 y, fun _ => ⟨fun _ => ?_, fun y => absurd (by rw [r0]; decide) y⟩⟩
      rw [s1]
      refine ⟨(F (nI cls.length + 1)).2.2.1, (F (nI cls.length + 1)).2.2.2.1, k _ (fz (nI cls.length + 1)) (H.rul (F (nI cls.length + 1)) (fun c z => z) (em (nI cls.length + 1)) (g21 (nI cls.length + 1)) (by rw [g25, nI_1]; simp) (by simp; omega) (fun i c hc => ?_))⟩
      by_cases ci : i < cls.length
      · rw [List.getElem?_append_left ci] at hc
        exact old (nI cls.length + 1) i c hc
      · have := getq_lt hc
        simp at this
        have ei : i = cls.length := by omega
        subst ei
        rw [List.getElem?_append_right (Nat.le_refl _)] at hc
        simp at hc
        subst hc
        have rc := rcls_of R.2 E3 A3 (by have := ru.2.2.1; omega) ru.2.2.2 R.2 [] rfl
        refine ⟨lt6, ru.2.1, by rw [g24, if_pos rfl, ev], ?_⟩
        rw [show hI (sI (sI (sI h3 m 21 0) (m + 24) cls.length (nI v1)) m 25 (nI cls.length + 1)) (m + 22) = hI h3 (m + 22) from funext (go _ (m + 22) (by omega) (by omega)), show hI (sI (sI (sI h3 m 21 0) (m + 24) cls.length (nI v1)) m 25 (nI cls.length + 1)) (m + 23) = hI h3 (m + 23) from funext (go _ (m + 23) (by omega) (by omega)), show hI (sI (sI (sI h3 m 21 0) (m + 24) cls.length (nI v1)) m 25 (nI cls.length + 1)) (m + 25) = hI h3 (m + 25) from funext (go _ (m + 25) (by omega) (by omega)), show hI (sI (sI (sI h3 m 21 0) (m + 24) cls.length (nI v1)) m 25 (nI cls.length + 1)) (m + 26) = hI h3 (m + 26) from funext (go _ (m + 26) (by omega) (by omega)), show hI (sI (sI (sI h3 m 21 0) (m + 24) cls.length (nI v1)) m 25 (nI cls.length + 1)) (m + 27) = hI h3 (m + 27) from funext (go _ (m + 27) (by omega) (by omega))]
        exact rc
    · rw [if_neg r2] at k
      have le := okF_le r1
      refine ⟨fun _ => ⟨fun y => absurd (by rw [← le]; exact y) r2, fun _ => ?_⟩, fun y => absurd y r2⟩
      exact ⟨(F (nI cls.length + 0)).2.2.1, (F (nI cls.length + 0)).2.2.2.1, k _ (fz (nI cls.length + 0)) (H.rul (F (nI cls.length + 0)) (fun c z => z) (em (nI cls.length + 0)) (g21 (nI cls.length + 0)) (by rw [g25, s0]) l6 (fun i c hc => old (nI cls.length + 0) i c hc))⟩
  · have eo : oRule cls tp = (-1, cls, tp) := by unfold oRule; rw [if_pos (by omega)]
    rw [eo] at k
    exact k h (Fr'.refl _ _) H
