/-! answers, as values; the reference's -/
noncomputable def aAhead (nr nw : Nat) (A M : PC) (R : Option (List (List (Nat × Nat) × List (Nat × Nat)))) (k n w : Int32) : Int32 := if (((0 ≤ w ∧ w ≤ 1) ∧ (0 ≤ k ∧ k < nI nr)) ∨ (w = 2 ∧ (0 ≤ k ∧ k < nI nw))) ∧ (0 ≤ n ∧ n ≤ 100) then (if w = 0 then itF R A nr nw n.toNatClampNeg M 2 k.toNatClampNeg else if w = 1 then itF R A nr nw n.toNatClampNeg M 3 k.toNatClampNeg else itF R A nr nw n.toNatClampNeg M 5 k.toNatClampNeg) else -1000
theorem QK.hill {h : AH} {m nr nw : Nat} {A M : PC} {R : Option (List (List (Nat × Nat) × List (Nat × Nat)))} (H : QK h m nr nw A M R) : (0 < hI h (m + 1) 0) = (0 < A 0 0) := by
  have : hI h (m + 1) 0 = A 0 0 := H.1.2.1.2.2.1.1
  rw [this]
theorem QK.keep {d : Nat} {h : AH} {Q : Option Value → AH → Prop} {nr nw m : Nat} {A M : PC} {R : Option (List (List (Nat × Nat) × List (Nat × Nat)))} (hd : 7 ≤ d) (H : QK h m nr nw A M R) (k : ∀ h', Rs h h' m → (∀ j, hI h' (m + 32) j = hI h (m + 32) j) → QC h' m nr nw A M R (fun _ => none) → Q none h') : Calls d nX12_keepsAll [.ref m] h (hN h) (hU h) Q :=
  sv_keeps hd m H.1.1 (fun h' S m1 => k h' S m1 (rs_qc H.2.2.1 H.2.2.2.1 H.1 S (M5.ord (fun j hj => by rw [m1]; exact H.2.1 j hj) H.2.2.1)))
theorem ah36 {d E1 E2 : Nat} {Q : Option Value → AH → Prop} {h0 : AH} (hd : 13 ≤ d) (m nr nw : Nat) (A M : PC) (R : Option (List (List (Nat × Nat) × List (Nat × Nat)))) (k n w s : Int32) (H : QK h0 m nr nw A M R) (e1 : hN h0 = E1) (e2 : hU h0 = E2) (hs : s = bI (((0 ≤ w ∧ w ≤ 1) ∧ (0 ≤ k ∧ k < nI nr)) ∨ (w = 2 ∧ (0 ≤ k ∧ k < nI nw)))) (kk : ∀ h', Rs h0 h' m → M5 h' m → Q (some (.int (aAhead nr nw A M R k n w))) h') (kk0 : aAhead nr nw A M R k n w = -1000 → Q (some (.int (-1000))) h0) : Reach d nX12_ahead (36, [.ref m, .int k, .int n, .int w, .float 0, .float 0], [.int s]) h0 E1 E2 Q := by
  have HQ := H
  obtain ⟨HC, H5, hr5, hw6, hh⟩ := H
  refine wX12_ahead_36 (by omega) m k n w s ?_
  simp only [rt_i, rt_b0, rt_b1, rt_v, rt_l, rt_o, rt_a, rV_none, rI_some, rL_some, rR_some, rT_some, rt_bI, hIf_sL, hIf_sR, hS_sI, hS_sL, hS_sR, hS_cpI, hR_sI, hR_sL, hR_cpI, hL_sI, hL_sR, hL_cpI, hI_sL, hI_sR, hN_sI, hN_sL, hN_sR, hN_cpI, hU_sI, hU_sL, hU_sR, hU_cpI, tn0, tn1, tn2, tn3, tn4, tn5, tn6, tn7, tn8, tn9, tn10, tn11, tn12, tn13, tn14, tn15, tn16, tn17, tn18, tn19, tn20, tn21, tn22, tn23, tn24, tn25, tn26, tn27, tn28, tn29, tn30, tn31, tn32, tn33, tn34, tn35, tn36, tn37, tn38, tn39, tn40, tn41, tn42, tn43, tn44, tn45, tn46, tn47, tn48, tn49, tn50, tn51, tn52, tn53, tn54, tn55, tn56, tn57, tn58, tn59, tn60, lH_eq, true_and, and_true, mdq_0 HC.1]
  refine m_isHill (by omega) m HC.1 ?_
  simp only [rI_some, bI0, HQ.hill]
  subst hs
  simp only [bI0]
  refine ⟨fun z => ⟨e1, e2, kk0 ?_⟩, fun z => ⟨fun y => ⟨e1, e2, kk0 ?_⟩, fun y => ?_⟩⟩
  · unfold aAhead
    rw [if_neg]
    rcases hh with ⟨h1, h2, h3⟩ | ⟨h1, -⟩
    · subst h2 h3
      rintro ⟨x | x, -⟩
      · exact absurd x.2.2 (Int32.not_lt.mpr x.2.1)
      · exact absurd x.2.2 (Int32.not_lt.mpr x.2.1)
    · exact absurd (pos_of h1.2.2.1.1) z
  · unfold aAhead
    rw [if_neg (fun x => y x.1)]
  · have y := Decidable.not_not.mp y
    have hok : hilOk nr nw A ∧ momOk 999 nr nw M := by
      rcases hh with ⟨h1, h2, h3⟩ | h1
      · rw [h1] at z; exact absurd (by decide) z
      · exact h1
    refine m_in32 (by omega) n 0 100 rfl rfl rfl ?_
    simp only [rI_some, bI0, mdq_0 HC.1, true_and]
    refine ⟨fun x => ?_, fun x => ⟨e1, e2, kk0 (by unfold aAhead; rw [if_neg (fun v => x v.2)])⟩⟩
    have x := Decidable.not_not.mp x
    obtain ⟨nn, hnn, rfl⟩ := rg_of (n := 100) rfl (by decide) x
    have ea : aAhead nr nw A M R k (nI nn) w = if w = 0 then itF R A nr nw nn M 2 k.toNatClampNeg else if w = 1 then itF R A nr nw nn M 3 k.toNatClampNeg else itF R A nr nw nn M 5 k.toNatClampNeg := by
      unfold aAhead
      rw [if_pos ⟨y, x⟩, nI_clamp (by omega)]
    refine QK.keep (d := d) (by omega) HQ (fun h1 S1 m1 H1 => ?_)
    simp only [rV_none, S1.1.1.1, mdq_0 HC.1, true_and]
    refine q_days (h0 := h0) (by omega) m nr nw nn A M R (D := 999) (by omega) hnn hok.1 hok.2 HC.1 S1.1 H1 (fun h2 S2 H2 m2 _ => ?_)
    have HM := H2.1
    simp only [rV_none, rt_i, rt_b0, rt_b1, rt_v, rt_l, rt_o, rt_a, rV_none, rI_some, rL_some, rR_some, rT_some, rt_bI, hIf_sL, hIf_sR, hS_sI, hS_sL, hS_sR, hS_cpI, hR_sI, hR_sL, hR_cpI, hL_sI, hL_sR, hL_cpI, hI_sL, hI_sR, hN_sI, hN_sL, hN_sR, hN_cpI, hU_sI, hU_sL, hU_sR, hU_cpI, tn0, tn1, tn2, tn3, tn4, tn5, tn6, tn7, tn8, tn9, tn10, tn11, tn12, tn13, tn14, tn15, tn16, tn17, tn18, tn19, tn20, tn21, tn22, tn23, tn24, tn25, tn26, tn27, tn28, tn29, tn30, tn31, tn32, tn33, tn34, tn35, tn36, tn37, tn38, tn39, tn40, tn41, tn42, tn43, tn44, tn45, tn46, tn47, tn48, tn49, tn50, tn51, tn52, tn53, tn54, tn55, tn56, tn57, tn58, tn59, tn60, lH_eq, true_and, and_true, mdq_0 HM, mdq_2 HM, mds_2 HM, mdq_3 HM, mds_3 HM, mdq_6 HM, mds_6 HM]
    have fin : ∀ (v : Int32), v = aAhead nr nw A M R k (nI nn) w → Calls d 212 [.ref m] h2 (hN h2) (hU h2) (fun r12 h11 => rV r12 (hN h11 = E1 ∧ hU h11 = E2 ∧ Q (some (.int v)) h11)) := fun v hv => by
      refine sv_lays (h0 := h0) (by omega) m HC.1 S2 (fun h3 S3 f3 m3 => ?_)
      simp only [rV_none]
      have e3 := S3.1.1
      have := kk h3 S3 (fun j hj => by rw [m3, m2, m1]; exact H5 j hj)
      rw [hv]
      exact ⟨e3.2.2.1.trans e1, e3.2.2.2.1.trans e2, this⟩
    rcases y with ⟨y1, y2⟩ | ⟨y1, y2⟩
    · obtain ⟨r, hr, rfl⟩ := rn_of (by omega) y2
      rw [nI_clamp (by omega)] at ea ⊢
      refine ⟨fun c => ⟨fun c2 => ?_, fun c2 => ⟨vp_in_nI (by omega) (by decide), fin _ ?_⟩⟩, fun c => ⟨vp_in_nI (by omega) (by decide), fin _ ?_⟩⟩
      · exfalso
        obtain ⟨q, hq, rfl⟩ := rg_of (n := 1) rfl (by decide) y1
        have : q = 0 ∨ q = 1 := by omega
        rcases this with rfl | rfl
        · exact c rfl
        · exact c2 rfl
      · rw [ea, if_neg c, if_pos c2]
        exact (H2.2.2.1.2.1 r hr).2.2
      · rw [ea, if_pos c]
        exact (H2.2.2.1.2.1 r hr).2.1
    · obtain ⟨r, hr, rfl⟩ := rn_of (by omega) y2
      subst y1
      rw [nI_clamp (by omega)] at ea ⊢
      refine ⟨fun c => ⟨fun c2 => ⟨vp_in_nI (by omega) (by decide), fin _ ?_⟩, fun c2 => absurd c2 (by decide)⟩, fun c => absurd c (by decide)⟩
      rw [ea, if_neg (by decide), if_neg (by decide)]
      exact (H2.2.2.1.2.2 r hr).2
theorem m_ahead {d : Nat} {h : AH} {Q : Option Value → AH → Prop} (hd : 14 ≤ d) (m nr nw : Nat) (A M : PC) (R : Option (List (List (Nat × Nat) × List (Nat × Nat)))) (k n w : Int32) (H : QK h m nr nw A M R) (kk : ∀ h', Rs h h' m → M5 h' m → Q (some (.int (aAhead nr nw A M R k n w))) h') (kk0 : aAhead nr nw A M R k n w = -1000 → Q (some (.int (-1000))) h) : Calls d nX12_ahead [.ref m, .int k, .int n, .int w] h (hN h) (hU h) Q := by
  obtain ⟨e, rfl⟩ : ∃ e, d = e + 1 := ⟨d - 1, by omega⟩
  have HQ := H
  obtain ⟨HC, H5, hr5, hw6, hh⟩ := H
  have go : ∀ s : Int32, s = bI (((0 ≤ w ∧ w ≤ 1) ∧ (0 ≤ k ∧ k < nI nr)) ∨ (w = 2 ∧ (0 ≤ k ∧ k < nI nw))) → Reach e nX12_ahead (36, [.ref m, .int k, .int n, .int w, .float 0, .float 0], [.int s]) h (hN h) (hU h) Q := fun s hs => ah36 (by omega) m nr nw A M R k n w s HQ rfl rfl hs kk kk0
  have go18 : ¬ ((0 ≤ w ∧ w ≤ 1) ∧ (0 ≤ k ∧ k < nI nr)) → Reach e nX12_ahead (18, [.ref m, .int k, .int n, .int w, .float 0, .float 0], []) h (hN h) (hU h) Q := fun z => by
    refine wX12_ahead_18 (by omega) m k n w ?_
    simp only [mdq_0 HC.1, true_and]
    refine ⟨fun y => wX12_ahead_35 (by omega) m k n w (go 0 (by rw [bI_f (fun x => x.elim z (fun x => y x.1))])), fun y => ?_⟩
    refine m_isWare (by omega) m nw k HC.1 HC.2.1.2.1 hw6 ?_
    simp only [rI_some, bI0]
    refine ⟨fun x => wX12_ahead_35 (by omega) m k n w (go 0 (by rw [bI_f (fun v => v.elim z (fun v => x v.2))])), fun x => wX12_ahead_31 (by omega) m k n w (go 1 (by rw [bI_t (Or.inr ⟨y, Decidable.not_not.mp x⟩)]))⟩
  refine wX12_ahead (by omega) m k n w ?_
  refine m_in32 (by omega) w 0 1 rfl rfl rfl ?_
  simp only [rI_some, bI0, mdq_0 HC.1, true_and]
  refine ⟨fun z => go18 (fun y => z y.1), fun z => ?_⟩
  refine m_isRunner (by omega) m nr k HC.1 HC.2.1.1 hr5 ?_
  simp only [rI_some, bI0]
  refine ⟨fun y => wX12_ahead_31 (by omega) m k n w (go 1 (by rw [bI_t (Or.inl ⟨Decidable.not_not.mp z, Decidable.not_not.mp y⟩)])), fun y => go18 (fun x => y x.2)⟩
noncomputable def aGets (nr nw : Nat) (A M : PC) (R : Option (List (List (Nat × Nat) × List (Nat × Nat)))) (q w : Int32) : Int32 := if (0 ≤ q ∧ q < nI nr) ∧ (0 ≤ w ∧ w ≤ 1) then fgF R A nr nw q w 100 M else -1
theorem m_gets {d : Nat} {h : AH} {Q : Option Value → AH → Prop} (hd : 15 ≤ d) (m nr nw : Nat) (A M : PC) (R : Option (List (List (Nat × Nat) × List (Nat × Nat)))) (q w : Int32) (H : QK h m nr nw A M R) (kk : ∀ h', Rs h h' m → M5 h' m → Q (some (.int (aGets nr nw A M R q w))) h') (kk0 : aGets nr nw A M R q w = -1 → Q (some (.int (-1))) h) : Calls d nX12_gets [.ref m, .int q, .int w] h (hN h) (hU h) Q := by
  obtain ⟨e, rfl⟩ : ∃ e, d = e + 1 := ⟨d - 1, by omega⟩
  have HQ := H
  obtain ⟨HC, H5, hr5, hw6, hh⟩ := H
  refine wX12_gets (by omega) m q w ?_
  simp only [rt_i, rt_b0, rt_b1, rt_v, rt_l, rt_o, rt_a, rV_none, rI_some, rL_some, rR_some, rT_some, rt_bI, hIf_sL, hIf_sR, hS_sI, hS_sL, hS_sR, hS_cpI, hR_sI, hR_sL, hR_cpI, hL_sI, hL_sR, hL_cpI, hI_sL, hI_sR, hN_sI, hN_sL, hN_sR, hN_cpI, hU_sI, hU_sL, hU_sR, hU_cpI, tn0, tn1, tn2, tn3, tn4, tn5, tn6, tn7, tn8, tn9, tn10, tn11, tn12, tn13, tn14, tn15, tn16, tn17, tn18, tn19, tn20, tn21, tn22, tn23, tn24, tn25, tn26, tn27, tn28, tn29, tn30, tn31, tn32, tn33, tn34, tn35, tn36, tn37, tn38, tn39, tn40, tn41, tn42, tn43, tn44, tn45, tn46, tn47, tn48, tn49, tn50, tn51, tn52, tn53, tn54, tn55, tn56, tn57, tn58, tn59, tn60, lH_eq, true_and, and_true, mdq_0 HC.1]
  refine m_isRunner (by omega) m nr q HC.1 HC.2.1.1 hr5 ?_
  simp only [rI_some, bI0, mdq_0 HC.1, true_and]
  refine ⟨fun z => kk0 (by unfold aGets; rw [if_neg (fun y => z y.1)]), fun z => ?_⟩
  refine m_in32 (by omega) w 0 1 rfl rfl rfl ?_
  simp only [rI_some, bI0, mdq_0 HC.1, true_and]
  refine ⟨fun y => ?_, fun y => kk0 (by unfold aGets; rw [if_neg (fun x => y x.2)])⟩
  have z := Decidable.not_not.mp z
  have y := Decidable.not_not.mp y
  obtain ⟨r, hr, rfl⟩ := rn_of (by omega) z
  have hok := HQ.of_r (by omega)
  refine QK.keep (d := e) (by omega) HQ (fun h1 S1 m1 H1 => ?_)
  rw [rV_none]
  refine ge_loop (h0 := h) (by omega) m nr nw A R (nI r) w hok.1 HC.1 rfl rfl (aGets nr nw A M R (nI r) w) (fun h' S' m' => kk h' S' (fun j hj => by rw [m']; exact H5 j hj)) 100 0 M h1 (by omega) ⟨999, by omega, hok.2⟩ S1.1 H1 m1 (by unfold aGets; rw [if_pos ⟨z, y⟩])
