theorem nb_mv {t : Nat → Int32} {n q p1 : Nat} {lo hi f1 : Int32} (h : f1 = 0 → p1 = tkE t n q) : nbF t n (sk t n p1) lo hi f1 = nbF t n (nq t n q) lo hi f1 := by
  by_cases c : f1 = 0
  · rw [h c]; rfl
  · rw [nbF_st c, nbF_st c]
set_option maxHeartbeats 2000000 in
theorem m_hp0 {d : Nat} {h : AH} {Q : Option Value → AH → Prop} (hd : 9 ≤ d) (m n p c nr nw : Nat) (A : PC) (t : Nat → Int32) (H : MTp h m n t) (hp : p ≤ n) (e22 : hI h m 22 = nI p) (e23 : hI h m 23 = 0) (N : NWr h m c nr nw A) (kk : ∀ h' p', Fr' h h' (fun c => c = m ∨ (m + 15 ≤ c ∧ c ≤ m + 20)) → (∀ j, j ≠ 22 → j ≠ 23 → hI h' m j = hI h m j) → p' ≤ n → hI h' m 22 = nI p' → hI h' m 23 = (hpF t n 0 (sk t n p) nr nw A).1 → ((hpF t n 0 (sk t n p) nr nw A).1 = 0 → sk t n p' = (hpF t n 0 (sk t n p) nr nw A).2.1 ∧ NWr h' m (c + 1) (hpF t n 0 (sk t n p) nr nw A).2.2.1 (hpF t n 0 (sk t n p) nr nw A).2.2.2.1 (hpF t n 0 (sk t n p) nr nw A).2.2.2.2) → Q none h') : Calls d nX12_hillPart [.ref m, .int 0] h (hN h) (hU h) Q := by
  obtain ⟨e, rfl⟩ : ∃ e, d = e + 1 := ⟨d - 1, by omega⟩
  have HM := H.1
  have hs : sk t n p ≤ n := ru_le hp
  have hn4 := H.2.2.1
  obtain ⟨y0, ⟨y1, y2⟩, ⟨y3, y4⟩, y5, y6⟩ := N
  have eR : hpF t n 0 (sk t n p) nr nw A = (nbF t n (sk t n p) 1 60 0, nq t n (sk t n p), nr, nw, setC A 0 0 (tkV t n (sk t n p))) := rfl
  rw [eR] at kk
  refine wX12_hillPart (by omega) m 0 ?_
  simp only [mdq_0 HM, mdq_15 HM, mds_15 HM, true_and]
  refine ⟨fun _ => ?_, fun z => by first | exact absurd rfl z | exact absurd trivial z⟩
  refine m_amount (by omega) m n p 1 60 t (by decide) H hp e22 (fun h1 v1 p1 f1 g1 hp1 q1 q2 q3 => ?_)
  rw [e23] at q2 q3
  have HM1 := HM.fr f1
  have l0 : Int32.toNatClampNeg 0 = 0 := rfl
  simp only [rI_some, lH_eq, mdq_0 HM1, mdq_15 HM1, mds_15 HM1, l0, rt_v, hN_sI, hU_sI, true_and]
  have F : Fr' h (sI h1 (m + 15) 0 v1) (fun c => c = m ∨ (m + 15 ≤ c ∧ c ≤ m + 20)) := (f1.mono (fun c z => Or.inl z)).trans (Fr'.sI (Or.inr (by omega)))
  have o : ∀ c, m + 15 ≤ c → ∀ j, hI h1 c j = hI h c j := fun c c1 => f1.2.2.2.2.1 c (by omega)
  refine ⟨vp_in_nI (n := 0) (N := 3) (by decide) (by decide), F.2.2.1, F.2.2.2.1, kk _ p1 F (fun j a b => ?_) hp1 ?_ ?_ (fun z => ⟨?_, ?_⟩)⟩
  · rw [hI_sI, if_neg (by omega)]; exact g1 j a b
  · rw [hI_sI, if_neg (by omega)]; exact q1
  · rw [hI_sI, if_neg (by omega)]; exact q2
  · rw [(q3 z).1]; rfl
  · have ev := (q3 z).2
    refine ⟨fun _ => ?_, ⟨?_, ?_⟩, ⟨y3, y4⟩, fun j hj => ⟨?_, ?_⟩, fun j hj => ⟨?_, ?_, ?_⟩⟩
    · rw [hI_sI, if_pos rfl, if_pos rfl, ev]; simp [setC]
    · rw [hI_sI, if_pos rfl, if_neg (by decide), o _ (by omega)]; exact y1
    · rw [hI_sI, if_pos rfl, if_neg (by decide), o _ (by omega)]; exact y2
    · rw [hI_sI, if_neg (by omega), o _ (by omega), (y5 j hj).1]; simp [setC]
    · rw [hI_sI, if_neg (by omega), o _ (by omega), (y5 j hj).2]; simp [setC]
    · rw [hI_sI, if_neg (by omega), o _ (by omega), (y6 j hj).1]; simp [setC]
    · rw [hI_sI, if_neg (by omega), o _ (by omega), (y6 j hj).2.1]; simp [setC]
    · rw [hI_sI, if_neg (by omega), o _ (by omega), (y6 j hj).2.2]; simp [setC]
set_option maxHeartbeats 2000000 in
theorem m_hp1 {d : Nat} {h : AH} {Q : Option Value → AH → Prop} (hd : 9 ≤ d) (m n p c nr nw : Nat) (A : PC) (t : Nat → Int32) (H : MTp h m n t) (hp : p ≤ n) (e22 : hI h m 22 = nI p) (e23 : hI h m 23 = 0) (N : NWr h m c nr nw A) (hc : 0 < c) (h5 : nr < 5) (kk : ∀ h' p', Fr' h h' (fun c => c = m ∨ (m + 15 ≤ c ∧ c ≤ m + 20)) → (∀ j, j ≠ 22 → j ≠ 23 → hI h' m j = hI h m j) → p' ≤ n → hI h' m 22 = nI p' → hI h' m 23 = (hpF t n 1 (sk t n p) nr nw A).1 → ((hpF t n 1 (sk t n p) nr nw A).1 = 0 → sk t n p' = (hpF t n 1 (sk t n p) nr nw A).2.1 ∧ NWr h' m (c + 1) (hpF t n 1 (sk t n p) nr nw A).2.2.1 (hpF t n 1 (sk t n p) nr nw A).2.2.2.1 (hpF t n 1 (sk t n p) nr nw A).2.2.2.2) → Q none h') : Calls d nX12_hillPart [.ref m, .int 1] h (hN h) (hU h) Q := by
  obtain ⟨e, rfl⟩ : ∃ e, d = e + 1 := ⟨d - 1, by omega⟩
  have HM := H.1
  have hs : sk t n p ≤ n := ru_le hp
  have hn4 := H.2.2.1
  have qn := nq_le (t := t) hs
  obtain ⟨y0, ⟨y1, y2⟩, ⟨y3, y4⟩, y5, y6⟩ := N
  have eR : hpF t n 1 (sk t n p) nr nw A = (nbF t n (nq t n (sk t n p)) 0 40 (nbF t n (sk t n p) 1 20 0), nq t n (nq t n (sk t n p)), nr + 1, nw, setC (setC A 1 nr (tkV t n (sk t n p))) 2 nr (tkV t n (nq t n (sk t n p)))) := rfl
  rw [eR] at kk
  have l1 : Int32.toNatClampNeg 1 = 1 := rfl
  have v1 : vp_in (1 : Int32) 3 := vp_in_nI (n := 1) (N := 3) (by decide) (by decide)
  refine wX12_hillPart (by omega) m 1 ?_
  simp only [mdq_0 HM, mdq_15 HM, mds_15 HM, mdq_16 HM, mds_16 HM, l1, v1, y1, true_and]
  refine ⟨fun z => absurd z (by decide), fun _ => ⟨fun _ => ?_, fun z => by first | exact absurd rfl z | exact absurd trivial z⟩⟩
  refine m_amount (by omega) m n p 1 20 t (by decide) H hp e22 (fun h1 w1 p1 f1 g1 hp1 q1 q2 q3 => ?_)
  rw [e23] at q2 q3
  have HM1 := HM.fr f1
  have H1 := H.fr f1 (g1 21 (by decide) (by decide)) (by omega)
  have fa : Fr' h1 (sI h1 (m + 16) nr w1) (fun c => c = m + 16) := Fr'.sI rfl
  have HM2 := HM1.fr fa
  have H2 : MTp (sI h1 (m + 16) nr w1) m n t := H1.fr fa (by rw [hI_sI, if_neg (by omega)]) (by omega)
  have o2 : ∀ c, m + 15 ≤ c → ∀ j, hI (sI h1 (m + 16) nr w1) c j = if c = m + 16 ∧ j = nr then w1 else hI h c j := fun c c1 j => by
    rw [hI_sI, f1.2.2.2.2.1 c (by omega)]
    by_cases u : c = m + 16
    · rw [if_pos u]; simp [u]
    · rw [if_neg u, if_neg (fun z => u z.1)]
  have g2 : ∀ j, hI (sI h1 (m + 16) nr w1) m j = hI h1 m j := fun j => by rw [hI_sI, if_neg (by omega)]
  have F2 : Fr' h (sI h1 (m + 16) nr w1) (fun c => c = m ∨ (m + 15 ≤ c ∧ c ≤ m + 20)) := (f1.mono (fun c z => Or.inl z)).trans (Fr'.sI (Or.inr (by omega)))
  simp only [rI_some, lH_eq, mdq_0 HM1, mdq_16 HM1, mds_16 HM1, vp_in_nI (show nr < 5 by omega) (show 5 < 2 ^ 31 by omega), nI_clamp (show nr < 2 ^ 31 by omega), true_and]
  generalize sI h1 (m + 16) nr w1 = h2 at *
  simp only [mdq_0 HM2, mdq_17 HM2, mds_17 HM2, true_and]
  refine m_amount (by omega) m n p1 0 40 t (by decide) H2 hp1 ((g2 22).trans q1) (fun h3 w2 p2 f3 g3 hp2 q4 q5 q6 => ?_)
  rw [g2, q2, nb_mv (q := sk t n p) (fun z => (q3 z).1)] at q5 q6
  have HM3 := HM2.fr f3
  simp only [rI_some, lH_eq, mdq_0 HM3, mdq_15 HM3, mds_15 HM3, mdq_17 HM3, mds_17 HM3, vp_in_nI (show nr < 5 by omega) (show 5 < 2 ^ 31 by omega), nI_clamp (show nr < 2 ^ 31 by omega), l1, v1, hS_sI, hR_sI, rt_v, hN_sI, hU_sI, true_and]
  have e15 : hI (sI h3 (m + 17) nr w2) (m + 15) 1 = nI nr := by
    rw [hI_sI, if_neg (by omega), f3.2.2.2.2.1 (m + 15) (by omega), o2 _ (by omega), if_neg (by omega)]; exact y1
  rw [e15, nI_1]
  have F : Fr' h (sI (sI h3 (m + 17) nr w2) (m + 15) 1 (nI (nr + 1))) (fun c => c = m ∨ (m + 15 ≤ c ∧ c ≤ m + 20)) := ((F2.trans (f3.mono (fun c z => Or.inl z))).trans (Fr'.sI (Or.inr (by omega)))).trans (Fr'.sI (Or.inr (by omega)))
  have oF : ∀ c, m + 15 ≤ c → ∀ j, hI (sI (sI h3 (m + 17) nr w2) (m + 15) 1 (nI (nr + 1))) c j = if c = m + 15 ∧ j = 1 then nI (nr + 1) else if c = m + 17 ∧ j = nr then w2 else if c = m + 16 ∧ j = nr then w1 else hI h c j := fun c c1 j => by
    rw [hI_sI, hI_sI, f3.2.2.2.2.1 c (by omega), o2 c c1]
    by_cases u : c = m + 15
    · rw [if_pos u, if_neg (show ¬ c = m + 17 by omega)]
      simp [u]
    · rw [if_neg u, if_neg (show ¬ (c = m + 15 ∧ j = 1) from fun z => u z.1)]
      by_cases w : c = m + 17
      · rw [if_pos w]; simp [w]
      · rw [if_neg w, if_neg (show ¬ (c = m + 17 ∧ j = nr) from fun z => w z.1)]
  refine ⟨F.2.2.1, F.2.2.2.1, kk _ p2 F (fun j a b => ?_) hp2 ?_ ?_ (fun z => ⟨?_, ?_⟩)⟩
  · rw [hI_sI, if_neg (by omega), hI_sI, if_neg (by omega), g3 j a b, g2]; exact g1 j a b
  · rw [hI_sI, if_neg (by omega), hI_sI, if_neg (by omega)]; exact q4
  · rw [hI_sI, if_neg (by omega), hI_sI, if_neg (by omega)]; exact q5
  · have z1 := (nbF_0 (by omega) z).1
    rw [(q6 z).1, (q3 z1).1]; rfl
  · have z1 := (nbF_0 (by omega) z).1
    have ev1 := (q3 z1).2
    have ev2 : w2 = tkV t n (nq t n (sk t n p)) := by rw [(q6 z).2, (q3 z1).1]; rfl
    refine ⟨fun _ => ?_, ⟨?_, ?_⟩, ⟨show nr + 1 ≤ 5 from by omega, y4⟩, fun j (hj : j < nr + 1) => ⟨?_, ?_⟩, fun j hj => ⟨?_, ?_, ?_⟩⟩
    · rw [oF _ (by omega), if_neg (by omega), if_neg (by omega), if_neg (by omega), y0 hc]; simp [setC]
    · rw [oF _ (by omega), if_pos ⟨rfl, rfl⟩]
    · rw [oF _ (by omega), if_neg (by omega), if_neg (by omega), if_neg (by omega)]; exact y2
    · rw [oF _ (by omega), if_neg (by omega), if_neg (by omega)]
      by_cases u : j = nr
      · simp [setC, u, ev1]
      · rw [if_neg (fun z => u z.2), (y5 j (by omega)).1]; simp [setC, u]
    · rw [oF _ (by omega), if_neg (by omega)]
      by_cases u : j = nr
      · simp [setC, u, ev2]
      · rw [if_neg (fun z => u z.2), if_neg (by omega), (y5 j (by omega)).2]; simp [setC, u]
    · rw [oF _ (by omega), if_neg (by omega), if_neg (by omega), if_neg (by omega), (y6 j hj).1]; simp [setC]
    · rw [oF _ (by omega), if_neg (by omega), if_neg (by omega), if_neg (by omega), (y6 j hj).2.1]; simp [setC]
    · rw [oF _ (by omega), if_neg (by omega), if_neg (by omega), if_neg (by omega), (y6 j hj).2.2]; simp [setC]
