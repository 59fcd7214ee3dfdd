/-! the reference's hill -/
theorem hcl_40 {t : Nat → Int32} {n q nr nw : Nat} {A : PC} (hq : q ≤ 400) : ¬ (hclF t n 40 q nr nw A).1 = 0 := by
  unfold hclF
  rw [if_neg (fun z => absurd z.2 (by decide)), if_neg (fun z => absurd z.2.1.2 (by decide)), if_neg (fun z => absurd z.2.1.2 (by decide))]
  exact rfF_ne (fa := 0) (q := q) hq (by split <;> omega)
theorem mr_out {d E1 E2 : Nat} {Q : Option Value → AH → Prop} {h : AH} (hd : 4 ≤ d) (m c : Nat) (HM : ModAt h m) (n1 : hN h = E1) (n2 : hU h = E2) (k : Q none (sI h m 21 0)) : Reach d nX12_readsAll (28, [.ref m, .int (nI c), .int 0], []) h E1 E2 Q := by
  refine wX12_readsAll_28 hd m (nI c) 0 ?_
  simp only [mdq_0 HM, true_and, lH_eq, rt_v, hN_sI, hU_sI]
  exact ⟨fun _ => ⟨n1, n2, k⟩, fun z => by first | exact absurd rfl z | exact absurd trivial z⟩
theorem mr_loop {d E1 E2 : Nat} {Q : Option Value → AH → Prop} (hd : 10 ≤ d) (m n : Nat) (t : Nat → Int32) : ∀ (f c p nr nw : Nat) (A : PC) (h : AH), c + f = 40 → p ≤ n → MTp h m n t → hI h m 22 = nI p → hI h m 23 = 0 → NWr h m c nr nw A → hN h = E1 → hU h = E2 → (∀ h', Fr' h h' (fun c => c = m ∨ (m + 15 ≤ c ∧ c ≤ m + 20)) → (∀ j, j ≠ 21 → j ≠ 22 → j ≠ 23 → hI h' m j = hI h m j) → hI h' m 21 = 0 → hI h' m 23 = (hrF t n (f + 1) c (sk t n p) nr nw A).1 → ((hrF t n (f + 1) c (sk t n p) nr nw A).1 = 0 → ∃ c', 0 < c' ∧ NWr h' m c' (hrF t n (f + 1) c (sk t n p) nr nw A).2.1 (hrF t n (f + 1) c (sk t n p) nr nw A).2.2.1 (hrF t n (f + 1) c (sk t n p) nr nw A).2.2.2) → Q none h') → Reach d nX12_readsAll (28, [.ref m, .int (nI c), .int 1], []) h E1 E2 Q := by
  intro f
  induction f with
  | zero =>
    intro c p nr nw A h hc hp H e22 e23 N n1 n2 k
    have hn4 := H.2.2.1
    have hs : sk t n p ≤ n := ru_le hp
    have : c = 40 := by omega
    subst this
    have HM := H.1
    have ne := hcl_40 (t := t) (n := n) (q := sk t n p) (nr := nr) (nw := nw) (A := A) (by omega)
    refine wX12_readsAll_28 (by omega) m (nI 40) 1 ?_
    simp only [mdq_0 HM, true_and]
    refine ⟨fun z => absurd z (by decide), fun _ => ?_⟩
    refine m_hillClause (by omega) m n p 40 nr nw A t (by omega) H hp e22 e23 N (fun h1 p1 f1 g1 hp1 q1 q2 q3 => ?_)
    have H1 := H.fr f1 (g1 21 (by decide) (by decide)) (by omega)
    simp only [rV_none, mdq_0 H1.1, true_and]
    refine m_goesOn (by omega) m n p1 t H1 hp1 q1 (fun h2 f2 g2 r1 r2 => ?_)
    rw [q2] at r2
    rw [q2, bI_f (fun z => ne z.1), rI_some, nI_1]
    have F : Fr' h (sI h2 m 21 0) (fun c => c = m ∨ (m + 15 ≤ c ∧ c ≤ m + 20)) := (f1.trans (f2.mono (fun c z => Or.inl z))).trans (Fr'.sI (Or.inl rfl))
    have eh : hrF t n 1 40 (sk t n p) nr nw A = ((hclF t n 40 (sk t n p) nr nw A).1, nr, nw, A) := if_pos ne
    rw [eh] at k
    refine mr_out (by omega) m 41 (H1.1.fr f2) (F.2.2.1.trans n1) (F.2.2.2.1.trans n2) (k _ F (fun j a b c => ?_) ?_ ?_ (fun z => absurd z ne))
    · rw [hI_sI, if_pos rfl, if_neg a, g2 j b c]; exact g1 j b c
    · rw [hI_sI, if_pos rfl, if_pos rfl]
    · rw [hI_sI, if_pos rfl, if_neg (by decide), r2]
      exact if_neg ne
  | succ f ih =>
    intro c p nr nw A h hc hp H e22 e23 N n1 n2 k
    have hn4 := H.2.2.1
    have hB := H.2.2.2.2
    have hs : sk t n p ≤ n := ru_le hp
    have HM := H.1
    refine wX12_readsAll_28 (by omega) m (nI c) 1 ?_
    simp only [mdq_0 HM, true_and]
    refine ⟨fun z => absurd z (by decide), fun _ => ?_⟩
    refine m_hillClause (by omega) m n p c nr nw A t (by omega) H hp e22 e23 N (fun h1 p1 f1 g1 hp1 q1 q2 q3 => ?_)
    have H1 := H.fr f1 (g1 21 (by decide) (by decide)) (by omega)
    simp only [rV_none, mdq_0 H1.1, true_and]
    refine m_goesOn (by omega) m n p1 t H1 hp1 q1 (fun h2 f2 g2 r1 r2 => ?_)
    rw [q2] at r2
    rw [q2, rI_some, nI_1]
    have eh : hrF t n (f + 1 + 1) c (sk t n p) nr nw A = if (hclF t n c (sk t n p) nr nw A).1 ≠ 0 then ((hclF t n c (sk t n p) nr nw A).1, nr, nw, A) else if tkK t n (hclF t n c (sk t n p) nr nw A).2.1 = 3 ∧ tkV t n (hclF t n c (sk t n p) nr nw A).2.1 = 59 then hrF t n (f + 1) (c + 1) (nq t n (hclF t n c (sk t n p) nr nw A).2.1) (hclF t n c (sk t n p) nr nw A).2.2.1 (hclF t n c (sk t n p) nr nw A).2.2.2.1 (hclF t n c (sk t n p) nr nw A).2.2.2.2 else if tkK t n (hclF t n c (sk t n p) nr nw A).2.1 = 0 then (0, (hclF t n c (sk t n p) nr nw A).2.2.1, (hclF t n c (sk t n p) nr nw A).2.2.2.1, (hclF t n c (sk t n p) nr nw A).2.2.2.2) else (rfF 0 (hclF t n c (sk t n p) nr nw A).2.1 0, nr, nw, A) := rfl
    rw [eh] at k
    have hl := hclF_le (c := c) (nr := nr) (nw := nw) (A := A) (t := t) hs
    generalize hclF t n c (sk t n p) nr nw A = R at *
    have F : Fr' h h2 (fun c => c = m ∨ (m + 15 ≤ c ∧ c ≤ m + 20)) := f1.trans (f2.mono (fun c z => Or.inl z))
    have G : ∀ j, j ≠ 22 → j ≠ 23 → hI h2 m j = hI h m j := fun j b c => (g2 j b c).trans (g1 j b c)
    have out : ∀ (V : Int32 × Nat × Nat × PC), hI h2 m 23 = V.1 → (V.1 = 0 → ∃ c', 0 < c' ∧ NWr h2 m c' V.2.1 V.2.2.1 V.2.2.2) → (∀ h', Fr' h h' (fun c => c = m ∨ (m + 15 ≤ c ∧ c ≤ m + 20)) → (∀ j, j ≠ 21 → j ≠ 22 → j ≠ 23 → hI h' m j = hI h m j) → hI h' m 21 = 0 → hI h' m 23 = V.1 → (V.1 = 0 → ∃ c', 0 < c' ∧ NWr h' m c' V.2.1 V.2.2.1 V.2.2.2) → Q none h') → Reach d nX12_readsAll (28, [.ref m, .int (nI (c + 1)), .int 0], []) h2 E1 E2 Q := fun V e1 e2 kV => by
      refine mr_out (by omega) m (c + 1) (H1.1.fr f2) (F.2.2.1.trans n1) (F.2.2.2.1.trans n2) (kV _ (F.trans (Fr'.sI (Or.inl rfl))) (fun j a b c => ?_) ?_ ?_ (fun z => ?_))
      · rw [hI_sI, if_pos rfl, if_neg a]; exact G j b c
      · rw [hI_sI, if_pos rfl, if_pos rfl]
      · rw [hI_sI, if_pos rfl, if_neg (by decide)]; exact e1
      · obtain ⟨c', h1, h2⟩ := e2 z
        exact ⟨c', h1, h2.fr (S := fun c => c = m) (Fr'.sI rfl) (fun c c1 c2 => by omega)⟩
    by_cases z : R.1 = 0
    · have z' : ¬ R.1 ≠ 0 := fun y => y z
      rw [if_neg z'] at k
      have sy : (tkK t n R.2.1 = 3 ∧ tkV t n R.2.1 = 59) ↔ (R.2.1 < n ∧ t R.2.1 = 59) := iff_of_eq (semi_eq hB)
      have sx : (tkK t n R.2.1 = 0) ↔ (n ≤ R.2.1) := iff_of_eq tkK_0
      obtain ⟨x1, x2⟩ := q3 z
      rw [x1] at r1 r2 ⊢
      have N2 := x2.fr f2 (fun c c1 c2 => by omega)
      by_cases y : R.2.1 < n ∧ t R.2.1 = 59
      · rw [if_pos (sy.mpr y)] at k
        rw [bI_t ⟨z, y⟩]
        have en : nq t n R.2.1 = sk t n (R.2.1 + 1) := by unfold nq; rw [semi_E y.1 y.2]
        rw [en] at k
        have e23' : hI h2 m 23 = 0 := by
          rw [r2]
          unfold goF
          rw [if_pos z, if_neg (fun w => w.2 y.2)]
        exact ih (c + 1) (R.2.1 + 1) _ _ _ h2 (by omega) (by omega) (H1.fr f2 (g2 21 (by decide) (by decide)) (by omega)) r1 e23' N2 (F.2.2.1.trans n1) (F.2.2.2.1.trans n2) (fun h' f' g' a1 a2 a3 => k h' (F.trans f') (fun j a b c => (g' j a b c).trans (G j b c)) a1 a2 a3)
      · rw [if_neg (fun w => y (sy.mp w))] at k
        rw [bI_f (fun w => y w.2)]
        by_cases x : n ≤ R.2.1
        · rw [if_pos (sx.mpr x)] at k
          refine out _ ?_ (fun _ => ⟨c + 1, by omega, N2⟩) k
          rw [r2]
          unfold goF
          rw [if_pos z, if_neg (fun w => by omega)]
        · rw [if_neg (fun w => x (sx.mp w))] at k
          refine out _ ?_ (fun w => absurd w (rfF_ne (fa := 0) (q := R.2.1) (c := 0) (by omega) (by omega))) k
          rw [r2]
          unfold goF
          rw [if_pos z, if_pos ⟨by omega, fun w => y ⟨by omega, w⟩⟩]
    · rw [if_pos z] at k
      rw [bI_f (fun w => z w.1)]
      refine out _ ?_ (fun w => absurd w z) k
      rw [r2]
      exact if_neg z
theorem m_starts {d : Nat} {h : AH} {Q : Option Value → AH → Prop} (hd : 5 ≤ d) (m : Nat) (HM : ModAt h m) (k : ∀ h', Fr' h h' (fun c => c = m) → (∀ j, j ≠ 22 → j ≠ 23 → j ≠ 26 → j ≠ 27 → j ≠ 28 → hI h' m j = hI h m j) → hI h' m 22 = 0 → hI h' m 23 = 0 → hI h' m 26 = 0 → hI h' m 27 = 0 → hI h' m 28 = 0 → Q none h') : Calls d nX12_starts [.ref m] h (hN h) (hU h) Q := by
  obtain ⟨e, rfl⟩ : ∃ e, d = e + 1 := ⟨d - 1, by omega⟩
  refine wX12_starts (by omega) m ?_
  simp only [rt_i, rt_b0, rt_b1, rt_v, rt_l, rt_o, rt_a, rV_none, rI_some, rL_some, rR_some, rT_some, rt_bI, hIf_sL, hIf_sR, hS_sI, hS_sL, hS_sR, hS_cpI, hR_sI, hR_sL, hR_cpI, hL_sI, hL_sR, hL_cpI, hI_sL, hI_sR, hN_sI, hN_sL, hN_sR, hN_cpI, hU_sI, hU_sL, hU_sR, hU_cpI, tn0, tn1, tn2, tn3, tn4, tn5, tn6, tn7, tn8, tn9, tn10, tn11, tn12, tn13, tn14, tn15, tn16, tn17, tn18, tn19, tn20, tn21, tn22, tn23, tn24, tn25, tn26, tn27, tn28, tn29, tn30, tn31, tn32, tn33, tn34, tn35, tn36, tn37, tn38, tn39, tn40, tn41, tn42, tn43, tn44, tn45, tn46, tn47, tn48, tn49, tn50, tn51, tn52, tn53, tn54, tn55, tn56, tn57, tn58, tn59, tn60, lH_eq, true_and, and_true, mdq_0 HM]
  refine k _ (((((Fr'.sI (S := fun c => c = m) rfl).trans (Fr'.sI rfl)).trans (Fr'.sI rfl)).trans (Fr'.sI rfl)).trans (Fr'.sI rfl)) (fun j a b c d e => ?_) ?_ ?_ ?_ ?_ ?_
  · rw [hI_sI, if_pos rfl, if_neg e, hI_sI, if_pos rfl, if_neg d, hI_sI, if_pos rfl, if_neg c, hI_sI, if_pos rfl, if_neg b, hI_sI, if_pos rfl, if_neg a]
  all_goals simp [hI_sI]
theorem m_readsAll {d : Nat} {h : AH} {Q : Option Value → AH → Prop} (hd : 11 ≤ d) (m n : Nat) (t : Nat → Int32) (H : MTp h m n t) (k : ∀ h', Fr' h h' (fun c => c = m ∨ (m + 15 ≤ c ∧ c ≤ m + 20)) → (∀ j, j ≠ 21 → j ≠ 22 → j ≠ 23 → j ≠ 26 → j ≠ 27 → j ≠ 28 → hI h' m j = hI h m j) → hI h' m 21 = 0 → hI h' m 23 = (hlF t n).1 → ((hlF t n).1 = 0 → ∃ c', 0 < c' ∧ NWr h' m c' (hlF t n).2.1 (hlF t n).2.2.1 (hlF t n).2.2.2) → Q none h') : Calls d nX12_readsAll [.ref m] h (hN h) (hU h) Q := by
  obtain ⟨e, rfl⟩ : ∃ e, d = e + 1 := ⟨d - 1, by omega⟩
  refine wX12_readsAll (by omega) m ?_
  simp only [mdq_0 H.1, true_and]
  refine m_starts (by omega) m H.1 (fun h1 f1 g1 a1 a2 _ _ _ => ?_)
  rw [rV_none]
  have H1 := H.fr f1 (g1 21 (by decide) (by decide) (by decide) (by decide) (by decide)) (by omega)
  have HM1 := H1.1
  have l0 : Int32.toNatClampNeg 0 = 0 := rfl
  have l1 : Int32.toNatClampNeg 1 = 1 := rfl
  have l2 : Int32.toNatClampNeg 2 = 2 := rfl
  have w0 : vp_in (0 : Int32) 3 := vp_in_nI (n := 0) (N := 3) (by decide) (by decide)
  have w1 : vp_in (1 : Int32) 3 := vp_in_nI (n := 1) (N := 3) (by decide) (by decide)
  have w2 : vp_in (2 : Int32) 3 := vp_in_nI (n := 2) (N := 3) (by decide) (by decide)
  have s1 : (0 : Int32) + 1 = 1 := by decide
  have s2 : (1 : Int32) + 1 = 2 := by decide
  have s3 : (2 : Int32) + 1 = 3 := by decide
  refine wX12_readsAll_6 (by omega) m 0 ?_
  simp only [mdq_0 HM1, mdq_15 HM1, mds_15 HM1, lH_eq, l0, w0, s1, true_and]
  refine ⟨fun z => absurd z (by decide), fun _ => ?_⟩
  refine wX12_readsAll_6 (by omega) m 1 ?_
  simp only [hS_sI, hR_sI, mdq_0 HM1, mdq_15 HM1, mds_15 HM1, lH_eq, l1, w1, s2, true_and]
  refine ⟨fun z => absurd z (by decide), fun _ => ?_⟩
  refine wX12_readsAll_6 (by omega) m 2 ?_
  simp only [hS_sI, hR_sI, mdq_0 HM1, mdq_15 HM1, mds_15 HM1, lH_eq, l2, w2, s3, true_and]
  refine ⟨fun z => absurd z (by decide), fun _ => ?_⟩
  refine wX12_readsAll_6 (by omega) m 3 ?_
  refine ⟨fun _ => ?_, fun z => absurd (by decide) z⟩
  have f2 : Fr' h1 (sI (sI (sI h1 (m + 15) 0 0) (m + 15) 1 0) (m + 15) 2 0) (fun c => c = m + 15) := ((Fr'.sI (S := fun c => c = m + 15) rfl).trans (Fr'.sI rfl)).trans (Fr'.sI rfl)
  have g2 : ∀ j, hI (sI (sI (sI h1 (m + 15) 0 0) (m + 15) 1 0) (m + 15) 2 0) m j = hI h1 m j := f2.2.2.2.2.1 m (by omega)
  have F : Fr' h (sI (sI (sI h1 (m + 15) 0 0) (m + 15) 1 0) (m + 15) 2 0) (fun c => c = m ∨ (m + 15 ≤ c ∧ c ≤ m + 20)) := (f1.mono (fun c z => Or.inl z)).trans (f2.mono (fun c z => Or.inr (by omega)))
  refine mr_loop (by omega) m n t 40 0 0 0 0 A1P _ rfl (by omega) (H1.fr f2 (g2 21) (by omega)) ((g2 22).trans a1) ((g2 23).trans a2) ⟨fun z => absurd z (by omega), ⟨by simp [hI_sI]; rfl, by simp [hI_sI]; rfl⟩, ⟨by omega, by omega⟩, fun j hj => absurd hj (Nat.not_lt_zero j), fun j hj => absurd hj (Nat.not_lt_zero j)⟩ F.2.2.1 F.2.2.2.1 (fun h' f' g' b1 b2 b3 => k h' (F.trans f') (fun j c1 c2 c3 c4 c5 c6 => (g' j c1 c2 c3).trans ((g2 j).trans (g1 j c2 c3 c4 c5 c6))) b1 b2 b3)
