set_option maxHeartbeats 2000000 in
theorem m_hp2 {d : Nat} {h : AH} {Q : Option Value → AH → Prop} (hd : 9 ≤ d) (m n p c nr nw : Nat) (A : PC) (t : Nat → Int32) (H : MTp h m n t) (hp : p ≤ n) (e22 : hI h m 22 = nI p) (e23 : hI h m 23 = 0) (N : NWr h m c nr nw A) (hc : 0 < c) (h6 : nw < 6) (kk : ∀ h' p', Fr' h h' (fun c => c = m ∨ (m + 15 ≤ c ∧ c ≤ m + 20)) → (∀ j, j ≠ 22 → j ≠ 23 → hI h' m j = hI h m j) → p' ≤ n → hI h' m 22 = nI p' → hI h' m 23 = (hpF t n 2 (sk t n p) nr nw A).1 → ((hpF t n 2 (sk t n p) nr nw A).1 = 0 → sk t n p' = (hpF t n 2 (sk t n p) nr nw A).2.1 ∧ NWr h' m (c + 1) (hpF t n 2 (sk t n p) nr nw A).2.2.1 (hpF t n 2 (sk t n p) nr nw A).2.2.2.1 (hpF t n 2 (sk t n p) nr nw A).2.2.2.2) → Q none h') : Calls d nX12_hillPart [.ref m, .int 2] h (hN h) (hU h) Q := by
  obtain ⟨e, rfl⟩ : ∃ e, d = e + 1 := ⟨d - 1, by omega⟩
  have HM := H.1
  have hs : sk t n p ≤ n := ru_le hp
  have hn4 := H.2.2.1
  have qn := nq_le (t := t) hs
  have qn2 := nq_le (t := t) qn.2
  obtain ⟨y0, ⟨y1, y2⟩, ⟨y3, y4⟩, y5, y6⟩ := N
  have eR : hpF t n 2 (sk t n p) nr nw A = (nbF t n (nq t n (nq t n (sk t n p))) 1 9 (nbF t n (nq t n (sk t n p)) 1 50 (nbF t n (sk t n p) 1 99 0)), nq t n (nq t n (nq t n (sk t n p))), nr, nw + 1, setC (setC (setC A 3 nw (tkV t n (sk t n p))) 4 nw (tkV t n (nq t n (sk t n p)))) 5 nw (tkV t n (nq t n (nq t n (sk t n p))))) := rfl
  rw [eR] at kk
  have l1 : Int32.toNatClampNeg 2 = 2 := rfl
  have v1 : vp_in (2 : Int32) 3 := vp_in_nI (n := 2) (N := 3) (by decide) (by decide)
  refine wX12_hillPart (by omega) m 2 ?_
  simp only [mdq_0 HM, mdq_15 HM, mds_15 HM, mdq_18 HM, mds_18 HM, l1, v1, y2, true_and]
  refine ⟨fun z => absurd z (by decide), fun _ => ⟨fun z => absurd z (by decide), fun _ => ?_⟩⟩
  refine m_amount (by omega) m n p 1 99 t (by decide) H hp e22 (fun h1 w1 p1 f1 g1 hp1 q1 q2 q3 => ?_)
  rw [e23] at q2 q3
  have HM1 := HM.fr f1
  have H1 := H.fr f1 (g1 21 (by decide) (by decide)) (by omega)
  have fa : Fr' h1 (sI h1 (m + 18) nw w1) (fun c => c = m + 18) := Fr'.sI rfl
  have HM2 := HM1.fr fa
  have H2 : MTp (sI h1 (m + 18) nw w1) m n t := H1.fr fa (by rw [hI_sI, if_neg (by omega)]) (by omega)
  have o2 : ∀ c, m + 15 ≤ c → ∀ j, hI (sI h1 (m + 18) nw w1) c j = if c = m + 18 ∧ j = nw then w1 else hI h c j := fun c c1 j => by
    rw [hI_sI, f1.2.2.2.2.1 c (by omega)]
    by_cases u : c = m + 18
    · rw [if_pos u]; simp [u]
    · rw [if_neg u, if_neg (fun z => u z.1)]
  have g2 : ∀ j, hI (sI h1 (m + 18) nw w1) m j = hI h1 m j := fun j => by rw [hI_sI, if_neg (by omega)]
  have F2 : Fr' h (sI h1 (m + 18) nw w1) (fun c => c = m ∨ (m + 15 ≤ c ∧ c ≤ m + 20)) := (f1.mono (fun c z => Or.inl z)).trans (Fr'.sI (Or.inr (by omega)))
  simp only [rI_some, lH_eq, mdq_0 HM1, mdq_18 HM1, mds_18 HM1, vp_in_nI (show nw < 6 by omega) (show 6 < 2 ^ 31 by omega), nI_clamp (show nw < 2 ^ 31 by omega), true_and]
  generalize sI h1 (m + 18) nw w1 = h2 at *
  simp only [mdq_0 HM2, mdq_19 HM2, mds_19 HM2, true_and]
  refine m_amount (by omega) m n p1 1 50 t (by decide) H2 hp1 ((g2 22).trans q1) (fun h3 w2 p2 f3 g3 hp2 q4 q5 q6 => ?_)
  rw [g2, q2, nb_mv (q := sk t n p) (fun z => (q3 z).1)] at q5 q6
  have HM3 := HM2.fr f3
  have H3 := H2.fr f3 (g3 21 (by decide) (by decide)) (by omega)
  have fb : Fr' h3 (sI h3 (m + 19) nw w2) (fun c => c = m + 19) := Fr'.sI rfl
  have HM4 := HM3.fr fb
  have H4 : MTp (sI h3 (m + 19) nw w2) m n t := H3.fr fb (by rw [hI_sI, if_neg (by omega)]) (by omega)
  have o4 : ∀ c, m + 15 ≤ c → ∀ j, hI (sI h3 (m + 19) nw w2) c j = if c = m + 19 ∧ j = nw then w2 else if c = m + 18 ∧ j = nw then w1 else hI h c j := fun c c1 j => by
    rw [hI_sI, f3.2.2.2.2.1 c (by omega), o2 c c1]
    by_cases u : c = m + 19
    · rw [if_pos u]; simp [u]
    · rw [if_neg u, if_neg (show ¬ (c = m + 19 ∧ j = nw) from fun z => u z.1)]
  have g4 : ∀ j, hI (sI h3 (m + 19) nw w2) m j = hI h3 m j := fun j => by rw [hI_sI, if_neg (by omega)]
  have F4 : Fr' h (sI h3 (m + 19) nw w2) (fun c => c = m ∨ (m + 15 ≤ c ∧ c ≤ m + 20)) := (F2.trans (f3.mono (fun c z => Or.inl z))).trans (Fr'.sI (Or.inr (by omega)))
  simp only [rI_some, lH_eq, mdq_0 HM3, mdq_19 HM3, mds_19 HM3, vp_in_nI (show nw < 6 by omega) (show 6 < 2 ^ 31 by omega), nI_clamp (show nw < 2 ^ 31 by omega), true_and]
  generalize sI h3 (m + 19) nw w2 = h4 at *
  simp only [mdq_0 HM4, mdq_20 HM4, mds_20 HM4, true_and]
  refine m_amount (by omega) m n p2 1 9 t (by decide) H4 hp2 ((g4 22).trans q4) (fun h5 w3 p3 f5 g5 hp3 q7 q8 q9 => ?_)
  have mv : nbF t n (nq t n (sk t n p)) 1 50 (nbF t n (sk t n p) 1 99 0) = 0 → p2 = tkE t n (nq t n (sk t n p)) := fun z => by
    have z1 := (nbF_0 (by omega) z).1
    rw [(q6 z).1, (q3 z1).1]; rfl
  rw [g4, q5, nb_mv (q := nq t n (sk t n p)) mv] at q8 q9
  have HM5 := HM4.fr f5
  simp only [rI_some, lH_eq, mdq_0 HM5, mdq_15 HM5, mds_15 HM5, mdq_20 HM5, mds_20 HM5, vp_in_nI (show nw < 6 by omega) (show 6 < 2 ^ 31 by omega), nI_clamp (show nw < 2 ^ 31 by omega), l1, v1, hS_sI, hR_sI, rt_v, hN_sI, hU_sI, true_and]
  have e15 : hI (sI h5 (m + 20) nw w3) (m + 15) 2 = nI nw := by
    rw [hI_sI, if_neg (by omega), f5.2.2.2.2.1 (m + 15) (by omega), o4 _ (by omega), if_neg (by omega), if_neg (by omega)]; exact y2
  rw [e15, nI_1]
  have F : Fr' h (sI (sI h5 (m + 20) nw w3) (m + 15) 2 (nI (nw + 1))) (fun c => c = m ∨ (m + 15 ≤ c ∧ c ≤ m + 20)) := ((F4.trans (f5.mono (fun c z => Or.inl z))).trans (Fr'.sI (Or.inr (by omega)))).trans (Fr'.sI (Or.inr (by omega)))
  have oF : ∀ c, m + 15 ≤ c → ∀ j, hI (sI (sI h5 (m + 20) nw w3) (m + 15) 2 (nI (nw + 1))) c j = if c = m + 15 ∧ j = 2 then nI (nw + 1) else if c = m + 20 ∧ j = nw then w3 else if c = m + 19 ∧ j = nw then w2 else if c = m + 18 ∧ j = nw then w1 else hI h c j := fun c c1 j => by
    rw [hI_sI, hI_sI, f5.2.2.2.2.1 c (by omega), o4 c c1]
    by_cases u : c = m + 15
    · rw [if_pos u, if_neg (show ¬ c = m + 20 by omega)]
      simp [u]
    · rw [if_neg u, if_neg (show ¬ (c = m + 15 ∧ j = 2) from fun z => u z.1)]
      by_cases w : c = m + 20
      · rw [if_pos w]; simp [w]
      · rw [if_neg w, if_neg (show ¬ (c = m + 20 ∧ j = nw) from fun z => w z.1)]
  refine ⟨F.2.2.1, F.2.2.2.1, kk _ p3 F (fun j a b => ?_) hp3 ?_ ?_ (fun z => ⟨?_, ?_⟩)⟩
  · rw [hI_sI, if_neg (by omega), hI_sI, if_neg (by omega), g5 j a b, g4, g3 j a b, g2]; exact g1 j a b
  · rw [hI_sI, if_neg (by omega), hI_sI, if_neg (by omega)]; exact q7
  · rw [hI_sI, if_neg (by omega), hI_sI, if_neg (by omega)]; exact q8
  · have z1 := (nbF_0 (by omega) z).1
    rw [(q9 z).1, mv z1]; rfl
  · have z1 := (nbF_0 (by omega) z).1
    have z2 := (nbF_0 (by omega) z1).1
    have ev1 := (q3 z2).2
    have ev2 : w2 = tkV t n (nq t n (sk t n p)) := by rw [(q6 z1).2, (q3 z2).1]; rfl
    have ev3 : w3 = tkV t n (nq t n (nq t n (sk t n p))) := by rw [(q9 z).2, mv z1]; rfl
    refine ⟨fun _ => ?_, ⟨?_, ?_⟩, ⟨y3, show nw + 1 ≤ 6 from by omega⟩, fun j hj => ⟨?_, ?_⟩, fun j (hj : j < nw + 1) => ⟨?_, ?_, ?_⟩⟩
    · rw [oF _ (by omega), if_neg (by omega), if_neg (by omega), if_neg (by omega), if_neg (by omega), y0 hc]; simp [setC]
    · rw [oF _ (by omega), if_neg (by omega), if_neg (by omega), if_neg (by omega), if_neg (by omega)]; exact y1
    · rw [oF _ (by omega), if_pos ⟨rfl, rfl⟩]
    · rw [oF _ (by omega), if_neg (by omega), if_neg (by omega), if_neg (by omega), if_neg (by omega), (y5 j hj).1]; simp [setC]
    · rw [oF _ (by omega), if_neg (by omega), if_neg (by omega), if_neg (by omega), if_neg (by omega), (y5 j hj).2]; simp [setC]
    · rw [oF _ (by omega), if_neg (by omega), if_neg (by omega), if_neg (by omega)]
      by_cases u : j = nw
      · simp [setC, u, ev1]
      · rw [if_neg (fun z => u z.2), (y6 j (by omega)).1]; simp [setC, u]
    · rw [oF _ (by omega), if_neg (by omega), if_neg (by omega)]
      by_cases u : j = nw
      · simp [setC, u, ev2]
      · rw [if_neg (fun z => u z.2), if_neg (by omega), (y6 j (by omega)).2.1]; simp [setC, u]
    · rw [oF _ (by omega), if_neg (by omega)]
      by_cases u : j = nw
      · simp [setC, u, ev3]
      · rw [if_neg (fun z => u z.2), if_neg (by omega), if_neg (by omega), (y6 j (by omega)).2.2]; simp [setC, u]
