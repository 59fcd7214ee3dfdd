def okF (fa : Int32) : Prop := fa = 0 ∨ ∃ k, 1 ≤ k ∧ k ≤ 4000 ∧ fa = nI k
theorem okF_rf {fa : Int32} {q c : Nat} (h : okF fa) (hq : q ≤ 400) (hc : c < 8) : okF (rfF fa q c) := by
  unfold rfF
  split
  · exact Or.inr ⟨1 + 8 * q + c, by omega, by omega, rfl⟩
  · exact h
theorem okF_nb {t : Nat → Int32} {n q : Nat} {lo hi fa : Int32} (h : okF fa) (hq : q ≤ 400) : okF (nbF t n q lo hi fa) := by
  unfold nbF
  split
  · split
    · exact h
    · exact okF_rf h hq (by omega)
  · exact okF_rf h hq (by omega)
theorem okF_hcl {t : Nat → Int32} {n c q nr nw : Nat} {A : PC} (hn : n ≤ 400) (hq : q ≤ n) : okF (hclF t n c q nr nw A).1 := by
  have q1 := nq_le (t := t) hq
  have q2 := nq_le (t := t) q1.2
  have q3 := nq_le (t := t) q2.2
  unfold hclF
  split
  · exact okF_nb (Or.inl rfl) (by omega)
  · split
    · exact okF_nb (okF_nb (Or.inl rfl) (by omega)) (by omega)
    · split
      · exact okF_nb (okF_nb (okF_nb (Or.inl rfl) (by omega)) (by omega)) (by omega)
      · exact okF_rf (Or.inl rfl) (by omega) (by split <;> omega)
theorem okF_hr {t : Nat → Int32} {n : Nat} (hn : n ≤ 400) : ∀ (f c q nr nw : Nat) (A : PC), q ≤ n → okF (hrF t n f c q nr nw A).1
  | 0, c, q, nr, nw, A, hq => Or.inl rfl
  | f + 1, c, q, nr, nw, A, hq => by
    have hl := hclF_le (c := c) (nr := nr) (nw := nw) (A := A) (t := t) hq
    have ho := okF_hcl (c := c) (nr := nr) (nw := nw) (A := A) (t := t) hn hq
    unfold hrF
    generalize hclF t n c q nr nw A = R at *
    split
    · exact ho
    · split
      · exact okF_hr hn f (c + 1) _ _ _ _ (nq_le hl).2
      · split
        · exact Or.inl rfl
        · exact okF_rf (Or.inl rfl) (by omega) (by omega)
theorem okF_le {fa : Int32} (h : okF fa) : (fa ≤ 0) = (fa = 0) := by
  rcases h with rfl | ⟨k, h1, h2, rfl⟩
  · simp
  · have e1 : ((nI k) ≤ nI 0) = (k ≤ 0) := nI_le_iff (by omega) (by decide)
    have e2 : ((nI k) = nI 0) = (k = 0) := nI_eq_iff (by omega) (by decide)
    show (nI k ≤ nI 0) = (nI k = nI 0)
    rw [e1, e2]
    apply propext
    omega
theorem RW.rd {h h' : AH} {m : Nat} {T : TW} {cls : List (List (List (Nat × Nat) × List (Nat × Nat)))} {tp : List Int32} {im : Nat → Option TW} {S : Nat → Prop} (H : RW h m (T, cls, tp, im)) (f : Fr' h h' S) (hs : ∀ c, S c → c = m ∨ (m + 15 ≤ c ∧ c ≤ m + 21)) (e0 : ∀ j, j = 25 ∨ j = 30 ∨ j = 45 → hI h' m j = hI h m j) (e21 : hI h' m 21 = 0) : RW h' m (T, cls, [], im) := by
  obtain ⟨w1, w2, w3, ⟨w4, w5, w6⟩, -, w10, w11⟩ := H
  have g : ∀ c, ¬ (c = m ∨ (m + 15 ≤ c ∧ c ≤ m + 21)) → ∀ j, hI h' c j = hI h c j := fun c hc j => f.2.2.2.2.1 c (fun z => hc (hs c z)) j
  refine ⟨w1.fr f, w2.cg (fun r hr j hj => ?_), fun j hj => (g (m + 32) (by omega) j).trans (w3 j hj), ⟨(e0 25 (by decide)).trans w4, w5, fun i c hc => (w6 i c hc).cg (fun b h1 h2 => g b (by omega))⟩, ⟨e21, by simp, fun i b hb => by simp at hb⟩, fun s hs => (w10 s hs).cg hs (g (m + 43) (by omega) s) (fun j _ hj => g (m + 42) (by omega) j), (e0 30 (by decide)).trans w11⟩
  unfold refP
  split
  · exact e0 45 (by decide)
  · have h1 := rows_3 r hr
    exact g _ (by omega) j
theorem RW.mtp {h : AH} {m : Nat} {T : TW} {cls : List (List (List (Nat × Nat) × List (Nat × Nat)))} {tp : List Int32} {im : Nat → Option TW} (H : RW h m (T, cls, tp, im)) (hb : ∀ b ∈ tp, byB b) : MTp h m tp.length (tpF tp) := by
  obtain ⟨w1, w2, w3, -, ⟨w7, w8, w9⟩, -⟩ := H
  have e : ∀ i, (hi : i < tp.length) → tpF tp i = tp[i]'hi := fun i hi => by
    unfold tpF
    simp [List.getD, List.getElem?_eq_getElem hi]
  refine ⟨w1, w7, w8, fun i hi => ?_, fun i hi => ?_⟩
  · rw [e i hi]
    exact w9 i _ (List.getElem?_eq_getElem hi)
  · rw [e i hi]
    exact hb _ (List.getElem_mem hi)
set_option maxHeartbeats 2000000 in
theorem m_hill {d : Nat} {h : AH} {Q : Option Value → AH → Prop} (hd : 12 ≤ d) (m nr nw : Nat) (A M : PC) (fo y : Int32) (ps : List PC) (ns : List (Nat × Nat × Int32)) (cls : List (List (List (Nat × Nat) × List (Nat × Nat)))) (tp : List Int32) (im : Nat → Option TW) (H : RW h m ((nr, nw, A, fo, y, M, ps, ns), cls, tp, im)) (hb : ∀ b ∈ tp, byB b) (k : ∀ h', Fr' h h' (MZ m) → RW h' m ((oHill (nr, nw, A, fo, y, M, ps, ns) tp).2, cls, [], im) → Q (some (.int (oHill (nr, nw, A, fo, y, M, ps, ns) tp).1)) h') : Calls d nX12_hill [.ref m] h (hN h) (hU h) Q := by
  obtain ⟨e, rfl⟩ : ∃ e, d = e + 1 := ⟨d - 1, by omega⟩
  have HM := H.mod
  have HT := H.mtp hb
  have hn4 := HT.2.2.1
  have okf : okF (hlF (tpF tp) tp.length).1 := okF_hr hn4 _ _ _ _ _ _ (ru_le (by omega))
  have i5 : hI h (m + 1) 5 = y := H.2.1.2.1.2.2.2.2.2.1
  have i6 : hI h (m + 1) 6 = fo := H.2.1.2.1.2.2.2.2.2.2
  refine wX12_hill (by omega) m ?_
  simp only [mdq_0 HM, true_and]
  refine m_readsAll (by omega) m tp.length (tpF tp) HT (fun h1 f1 g1 a1 a2 a3 => ?_)
  have HM1 := HM.fr f1
  have W1 : RW h1 m ((nr, nw, A, fo, y, M, ps, ns), cls, [], im) := H.rd f1 (fun c z => by omega) (fun j hj => g1 j (by omega) (by omega) (by omega) (by omega) (by omega) (by omega)) a1
  have F1 : Fr' h h1 (MZ m) := f1.mono (fun c z => by unfold MZ; omega)
  have o1 : ∀ c, m + 1 ≤ c → c ≤ m + 14 → ∀ j, hI h1 c j = hI h c j := fun c c1 c2 => f1.2.2.2.2.1 c (by omega)
  simp only [rV_none, mdq_0 HM1, a2, okF_le okf, rt_i, rt_b0, rt_b1, rt_v, rt_l, rt_o, rt_a, rV_none, rI_some, rL_some, rR_some, rT_some, true_and]
  refine ⟨fun z => ?_, fun z => ?_⟩
  · have eo : oHill (nr, nw, A, fo, y, M, ps, ns) tp = (nI (hlF (tpF tp) tp.length).2.1, ((hlF (tpF tp) tp.length).2.1, (hlF (tpF tp) tp.length).2.2.1, (hlF (tpF tp) tp.length).2.2.2, fo, y, begM (hlF (tpF tp) tp.length).2.2.2, [], [])) := if_pos z
    rw [eo] at k
    obtain ⟨c', hc', N⟩ := a3 z
    generalize hlF (tpF tp) tp.length = R at *
    obtain ⟨y0, ⟨y1, y2⟩, ⟨y3, y4⟩, y5, y6⟩ := N
    have y0 := y0 hc'
    have l0 : Int32.toNatClampNeg 0 = 0 := rfl
    have l1 : Int32.toNatClampNeg 1 = 1 := rfl
    have l2 : Int32.toNatClampNeg 2 = 2 := rfl
    have l4 : Int32.toNatClampNeg 4 = 4 := rfl
    have w0 : vp_in (0 : Int32) 3 := vp_in_nI (n := 0) (N := 3) (by decide) (by decide)
    have w1 : vp_in (1 : Int32) 3 := vp_in_nI (n := 1) (N := 3) (by decide) (by decide)
    have w2 : vp_in (2 : Int32) 3 := vp_in_nI (n := 2) (N := 3) (by decide) (by decide)
    have x0 : vp_in (0 : Int32) 7 := vp_in_nI (n := 0) (N := 7) (by decide) (by decide)
    have x1 : vp_in (1 : Int32) 7 := vp_in_nI (n := 1) (N := 7) (by decide) (by decide)
    have x2 : vp_in (2 : Int32) 7 := vp_in_nI (n := 2) (N := 7) (by decide) (by decide)
    have x4 : vp_in (4 : Int32) 7 := vp_in_nI (n := 4) (N := 7) (by decide) (by decide)
    have s1 : (0 : Int32) + 1 = 1 := by decide
    have s2 : (1 : Int32) + 1 = 2 := by decide
    have s3 : (2 : Int32) + 1 = 3 := by decide
    have ne : (m + 15 = m + 1) = False := eq_false (by omega)
    refine wX12_hill_21 (by omega) m 0 ?_
    simp only [mdq_0 HM1, mdq_1 HM1, mds_1 HM1, mdq_15 HM1, mds_15 HM1, lH_eq, l0, w0, x0, s1, true_and, y0]
    refine ⟨fun z => absurd z (by decide), fun _ => ?_⟩
    refine wX12_hill_21 (by omega) m 1 ?_
    simp only [hS_sI, hR_sI, hI_sI, ne, if_false, mdq_0 HM1, mdq_1 HM1, mds_1 HM1, mdq_15 HM1, mds_15 HM1, lH_eq, l1, w1, x1, s2, true_and, y1]
    refine ⟨fun z => absurd z (by decide), fun _ => ?_⟩
    refine wX12_hill_21 (by omega) m 2 ?_
    simp only [hS_sI, hR_sI, hI_sI, ne, if_false, mdq_0 HM1, mdq_1 HM1, mds_1 HM1, mdq_15 HM1, mds_15 HM1, lH_eq, l2, w2, x2, s3, true_and, y2]
    refine ⟨fun z => absurd z (by decide), fun _ => ?_⟩
    refine wX12_hill_21 (by omega) m 3 ?_
    simp only [hS_sI, hR_sI, mdq_0 HM1, mdq_1 HM1, mds_1 HM1, mdq_12 HM1, mds_12 HM1, mdq_16 HM1, mds_16 HM1, lH_eq, l4, x4, true_and]
    refine ⟨fun _ => ?_, fun z => absurd (by decide) z⟩
    have f2 : Fr' h1 (sI (sI (sI (sI h1 (m + 1) 0 (R.2.2.2 0 0)) (m + 1) 1 (nI R.2.1)) (m + 1) 2 (nI R.2.2.1)) (m + 1) 4 0) (fun c => c = m + 1) := (((Fr'.sI (S := fun c => c = m + 1) rfl).trans (Fr'.sI rfl)).trans (Fr'.sI rfl)).trans (Fr'.sI rfl)
    have v2 : ∀ j, hI (sI (sI (sI (sI h1 (m + 1) 0 (R.2.2.2 0 0)) (m + 1) 1 (nI R.2.1)) (m + 1) 2 (nI R.2.2.1)) (m + 1) 4 0) (m + 1) j = if j = 4 then 0 else if j = 2 then nI R.2.2.1 else if j = 1 then nI R.2.1 else if j = 0 then R.2.2.2 0 0 else hI h (m + 1) j := fun j => by
      simp only [hI_sI, if_true, o1 (m + 1) (by omega) (by omega)]
    have HM2 := HM1.fr f2
    refine m_copies (h := sI (sI (sI (sI h1 (m + 1) 0 (R.2.2.2 0 0)) (m + 1) 1 (nI R.2.1)) (m + 1) 2 (nI R.2.2.1)) (m + 1) 4 0) (by omega) (m + 16) (m + 12) 5 (by omega) (by decide) (mds_16 HM2) (mds_12 HM2) (fun h3 f3 e3 => ?_)
    generalize sI (sI (sI (sI h1 (m + 1) 0 (R.2.2.2 0 0)) (m + 1) 1 (nI R.2.1)) (m + 1) 2 (nI R.2.2.1)) (m + 1) 4 0 = h2 at *
    have HM3 := HM2.fr f3
    simp only [rV_none, mdq_0 HM3, mdq_17 HM3, mds_17 HM3, mdq_13 HM3, mds_13 HM3, true_and]
    refine m_copies (by omega) (m + 17) (m + 13) 5 (by omega) (by decide) (mds_17 HM3) (mds_13 HM3) (fun h4 f4 e4 => ?_)
    have HM4 := HM3.fr f4
    simp only [rV_none, mdq_0 HM4, mdq_18 HM4, mds_18 HM4, mdq_14 HM4, mds_14 HM4, true_and]
    refine m_copies (by omega) (m + 18) (m + 14) 6 (by omega) (by decide) (mds_18 HM4) (mds_14 HM4) (fun h5 f5 e5 => ?_)
    have HM5 := HM4.fr f5
    simp only [rV_none, mdq_0 HM5, mdq_19 HM5, mds_19 HM5, mdq_7 HM5, mds_7 HM5, true_and]
    refine m_copies (by omega) (m + 19) (m + 7) 6 (by omega) (by decide) (mds_19 HM5) (mds_7 HM5) (fun h6 f6 e6 => ?_)
    have HM6 := HM5.fr f6
    simp only [rV_none, mdq_0 HM6, mdq_20 HM6, mds_20 HM6, mdq_8 HM6, mds_8 HM6, true_and]
    refine m_copies (by omega) (m + 20) (m + 8) 6 (by omega) (by decide) (mds_20 HM6) (mds_8 HM6) (fun h7 f7 e7 => ?_)
    have HM7 := HM6.fr f7
    simp only [rV_none, mdq_0 HM7, true_and]
    have c1 : ∀ c, c ≠ m + 1 → c ≠ m + 12 → c ≠ m + 13 → c ≠ m + 14 → c ≠ m + 7 → c ≠ m + 8 → ∀ j, hI h7 c j = hI h1 c j := fun c d1 d2 d3 d4 d5 d6 j => by rw [f7.2.2.2.2.1 c d6, f6.2.2.2.2.1 c d5, f5.2.2.2.2.1 c d4, f4.2.2.2.2.1 c d3, f3.2.2.2.2.1 c d2, f2.2.2.2.2.1 c d1]
    have t1 : ∀ j, hI h7 (m + 1) j = hI h2 (m + 1) j := fun j => by rw [f7.2.2.2.2.1 _ (by omega), f6.2.2.2.2.1 _ (by omega), f5.2.2.2.2.1 _ (by omega), f4.2.2.2.2.1 _ (by omega), f3.2.2.2.2.1 _ (by omega)]
    have t12 : ∀ j, j < 5 → hI h7 (m + 12) j = hI h1 (m + 16) j := fun j hj => by rw [f7.2.2.2.2.1 _ (by omega), f6.2.2.2.2.1 _ (by omega), f5.2.2.2.2.1 _ (by omega), f4.2.2.2.2.1 _ (by omega), e3 j hj, f2.2.2.2.2.1 _ (by omega)]
    have t13 : ∀ j, j < 5 → hI h7 (m + 13) j = hI h1 (m + 17) j := fun j hj => by rw [f7.2.2.2.2.1 _ (by omega), f6.2.2.2.2.1 _ (by omega), f5.2.2.2.2.1 _ (by omega), e4 j hj, f3.2.2.2.2.1 _ (by omega), f2.2.2.2.2.1 _ (by omega)]
    have t14 : ∀ j, j < 6 → hI h7 (m + 14) j = hI h1 (m + 18) j := fun j hj => by rw [f7.2.2.2.2.1 _ (by omega), f6.2.2.2.2.1 _ (by omega), e5 j hj, f4.2.2.2.2.1 _ (by omega), f3.2.2.2.2.1 _ (by omega), f2.2.2.2.2.1 _ (by omega)]
    have t7 : ∀ j, j < 6 → hI h7 (m + 7) j = hI h1 (m + 19) j := fun j hj => by rw [f7.2.2.2.2.1 _ (by omega), e6 j hj, f5.2.2.2.2.1 _ (by omega), f4.2.2.2.2.1 _ (by omega), f3.2.2.2.2.1 _ (by omega), f2.2.2.2.2.1 _ (by omega)]
    have t8 : ∀ j, j < 6 → hI h7 (m + 8) j = hI h1 (m + 20) j := fun j hj => by rw [e7 j hj, f6.2.2.2.2.1 _ (by omega), f5.2.2.2.2.1 _ (by omega), f4.2.2.2.2.1 _ (by omega), f3.2.2.2.2.1 _ (by omega), f2.2.2.2.2.1 _ (by omega)]
    refine m_begins (by omega) m HM7 (fun h8 f8 e1 e2 e0 => ?_)
    have HM8 := HM7.fr f8
    have F7 : Fr' h1 h7 (fun c => c = m ∨ (m + 1 ≤ c ∧ c ≤ m + 14)) := (((((f2.mono (fun c z => Or.inr (by omega))).trans (f3.mono (fun c z => Or.inr (by omega)))).trans (f4.mono (fun c z => Or.inr (by omega)))).trans (f5.mono (fun c z => Or.inr (by omega)))).trans (f6.mono (fun c z => Or.inr (by omega)))).trans (f7.mono (fun c z => Or.inr (by omega)))
    have F9 : Fr' h1 (sI h8 m 45 0) (fun c => c = m ∨ (m + 1 ≤ c ∧ c ≤ m + 14)) := (F7.trans (f8.mono (fun c z => Or.inr (by omega)))).trans (Fr'.sI (Or.inl rfl))
    have g9 : ∀ c, c ≠ m → ∀ j, hI (sI h8 m 45 0) c j = hI h8 c j := fun c hc j => by rw [hI_sI, if_neg hc]
    have u1 : ∀ j, hI (sI h8 m 45 0) (m + 1) j = if j = 3 then 0 else if j = 4 then 0 else if j = 2 then nI R.2.2.1 else if j = 1 then nI R.2.1 else if j = 0 then R.2.2.2 0 0 else hI h (m + 1) j := fun j => by rw [g9 _ (by omega), e1, t1, v2]
    have r1 : hI (sI h8 m 45 0) (m + 1) 1 = nI R.2.1 := by rw [u1]; simp
    simp only [rV_none, lH_eq, hS_sI, hR_sI, mdq_0 HM8, mdq_1 HM8, mds_1 HM8, l1, x1, true_and, r1, hN_sI, hU_sI]
    have k8 : ∀ c, m + 7 ≤ c → ∀ j, hI (sI h8 m 45 0) c j = hI h7 c j := fun c c1 j => by rw [g9 c (by omega), f8.2.2.2.2.1 c (by omega)]
    have HN : MNo (sI h8 m 45 0) m (R.2.1, R.2.2.1, R.2.2.2, fo, y, begM R.2.2.2, [], []) := by
      refine ⟨⟨y3, y4, by simp, by simp⟩, ⟨?_, ?_, ?_, ?_, ?_, ?_, ?_⟩, fun j hj => ⟨?_, ?_, ?_⟩, fun j hj => ⟨?_, ?_⟩, fun j hj => ⟨?_, ?_⟩, fun j hj => ⟨?_, ?_, ?_⟩, ?_, fun k N hk => by simp at hk, fun k q hk => by simp at hk⟩
      · show hI (sI h8 m 45 0) (m + 1) 0 = R.2.2.2 0 0
        rw [u1]; simp
      · exact r1
      · show hI (sI h8 m 45 0) (m + 1) 2 = nI R.2.2.1
        rw [u1]; simp
      · show hI (sI h8 m 45 0) (m + 1) 3 = 0
        rw [u1]; simp
      · show hI (sI h8 m 45 0) (m + 1) 4 = 0
        rw [u1]; simp
      · show hI (sI h8 m 45 0) (m + 1) 5 = y
        rw [u1]; simpa using i5
      · show hI (sI h8 m 45 0) (m + 1) 6 = fo
        rw [u1]; simpa using i6
      · show hI (sI h8 m 45 0) (m + 4) j = R.2.2.2 1 j
        rw [g9 _ (by omega), (e2 j (by omega)).1, t12 j (by omega)]; exact (y5 j hj).1
      · show hI (sI h8 m 45 0) (m + 2) j = R.2.2.2 2 j
        rw [g9 _ (by omega), (e2 j (by omega)).2.1, t13 j (by omega)]; exact (y5 j hj).2
      · show hI (sI h8 m 45 0) (m + 3) j = 0
        rw [g9 _ (by omega)]; exact (e2 j (by omega)).2.2
      · show hI (sI h8 m 45 0) (m + 5) j = R.2.2.2 3 j
        rw [g9 _ (by omega), (e0 j (by omega)).1, t14 j (by omega)]; exact (y6 j hj).1
      · show hI (sI h8 m 45 0) (m + 6) j = -1
        rw [g9 _ (by omega)]; exact (e0 j (by omega)).2
      · show hI (sI h8 m 45 0) (m + 12) j = R.2.2.2 1 j
        rw [k8 _ (by omega), t12 j (by omega)]; exact (y5 j hj).1
      · show hI (sI h8 m 45 0) (m + 13) j = R.2.2.2 2 j
        rw [k8 _ (by omega), t13 j (by omega)]; exact (y5 j hj).2
      · show hI (sI h8 m 45 0) (m + 14) j = R.2.2.2 3 j
        rw [k8 _ (by omega), t14 j (by omega)]; exact (y6 j hj).1
      · show hI (sI h8 m 45 0) (m + 7) j = R.2.2.2 4 j
        rw [k8 _ (by omega), t7 j (by omega)]; exact (y6 j hj).2.1
      · show hI (sI h8 m 45 0) (m + 8) j = R.2.2.2 5 j
        rw [k8 _ (by omega), t8 j (by omega)]; exact (y6 j hj).2.2
      · show hI (sI h8 m 45 0) m 45 = 0
        rw [hI_sI, if_pos rfl, if_pos rfl]
    have em : ∀ j, j ≠ 45 → hI (sI h8 m 45 0) m j = hI h1 m j := fun j hj => by rw [hI_sI, if_pos rfl, if_neg hj, f8.2.2.2.2.1 m (by omega), c1 m (by omega) (by omega) (by omega) (by omega) (by omega) (by omega)]
    have W9 := W1.up F9 (fun c z => by omega) (fun j hj => em j (by omega)) HN
    have FF : Fr' h (sI h8 m 45 0) (MZ m) := F1.trans (F9.mono (fun c z => by unfold MZ; omega))
    exact ⟨FF.2.2.1, FF.2.2.2.1, k _ FF W9⟩
  · have eo : oHill (nr, nw, A, fo, y, M, ps, ns) tp = (-2 - (hlF (tpF tp) tp.length).1, (nr, nw, A, fo, y, M, ps, ns)) := if_neg z
    rw [eo] at k
    exact ⟨F1.2.2.1, F1.2.2.2.1, k h1 F1 W1⟩
