/-! two sums compared -/
theorem cm90F {d E1 E2 : Nat} {Q : Option Value → AH → Prop} {h : AH} (hd : 10 ≤ d) (m n r p : Nat) (v1 v2 s0 : Int32) (e : Nat) (t : Nat → Int32) (fa : Int32) (H : MFd h m n t fa) (e30 : hI h m 30 = 12) (es : s0 = nI e) (hp : p + e ≤ n) (n1 : hN h = E1) (n2 : hU h = E2) (k : ∀ h', FRm h h' m r → MFd h' m n t fa → Q none h') : Reach d nX12_compared (90, [.ref m, .int v1, .int v2], [.int s0, .int (nI p), .ref m]) h E1 E2 Q := by
  subst es
  refine wX12_compared_90 (by omega) m v1 v2 (nI e) (nI p) m ?_
  have f0 : Fr' h (sI h m 22 (nI (p + e))) (fun c => c = m) := Fr'.sI rfl
  have g0 : ∀ j, j ≠ 22 → hI (sI h m 22 (nI (p + e))) m j = hI h m j := fun j hj => by rw [hI_sI, if_pos rfl, if_neg hj]
  have FR0 : FRm h (sI h m 22 (nI (p + e))) m r := FRm.m f0 (fun j a _ _ _ _ _ => g0 j a)
  have H0 : MFd (sI h m 22 (nI (p + e))) m n t fa := ⟨H.1.fr f0 (g0 21 (by decide)) (by omega), ⟨p + e, hp, by rw [hI_sI, if_pos rfl, if_pos rfl]⟩, (g0 23 (by decide)).trans H.2.2.1, H.2.2.2⟩
  simp only [mdq_0 H.1.1, nI_add, lH_eq, hS_sI, true_and]
  refine m_sumF (h := sI h m 22 (nI (p + e))) hd m n r t fa H0 ((g0 30 (by decide)).trans e30) (fun h2 f2 H2 => ?_)
  have F := FR0.trans f2
  have go : ∀ c : Int32, (hS h2 m).1 = 10 + 12 ∧ Calls d nX12_entry [.ref m, .int c, .int 0] h2 (hN h2) (hU h2) (fun r5 h4 => rV r5 (RtOf none E1 E2 Q none h4)) := fun c => by
    refine ⟨by rw [mdq_0 H2.1.1], m_entryF (by omega) m _ _ H2.1.1 (by rw [H2.2.2.1]; exact H2.2.2.2) ?_⟩
    rw [rV_none, rt_v]
    exact ⟨F.1.2.2.1.trans n1, F.1.2.2.2.1.trans n2, k h2 F H2⟩
  rw [rV_none]
  exact ⟨fun _ => ⟨fun _ => ⟨fun _ => go 8, fun _ => go 7⟩, fun _ => ⟨fun _ => go 4, fun _ => go 5⟩⟩, fun _ => go 6⟩
theorem cm37F {d E1 E2 : Nat} {Q : Option Value → AH → Prop} {h : AH} (hd : 10 ≤ d) (m n r p : Nat) (v1 : Int32) (t : Nat → Int32) (fa : Int32) (H : MFd h m n t fa) (e30 : hI h m 30 = 12) (e22 : hI h m 22 = nI p) (hp : p < n) (n1 : hN h = E1) (n2 : hU h = E2) (k : ∀ h', FRm h h' m r → MFd h' m n t fa → Q none h') : Reach d nX12_compared (37, [.ref m, .int v1, .float 0], []) h E1 E2 Q := by
  have hn4 := H.1.2.2.1
  have HM := H.1.1
  refine wX12_compared_37 (by omega) m v1 ?_
  simp only [mdq_0 HM, e22, true_and]
  refine m_isCounted (by omega) m p HM (fun h1 f1 g1 g28 g23 => ?_)
  have HM1 := HM.fr f1
  have e231 : hI h1 m 23 = fa := by
    rw [g23, H.2.2.1, rfF_st H.2.2.2]
    split <;> rfl
  simp only [rV_none, mdq_0 HM1, g1 22 (by decide) (by decide), e22, nI_1, lH_eq, hS_sI, true_and]
  have f2 : Fr' h (sI h1 m 22 (nI (p + 1))) (fun c => c = m) := f1.trans (Fr'.sI rfl)
  have g2 : ∀ j, j ≠ 22 → hI (sI h1 m 22 (nI (p + 1))) m j = hI h1 m j := fun j hj => by rw [hI_sI, if_pos rfl, if_neg hj]
  have e222 : hI (sI h1 m 22 (nI (p + 1))) m 22 = nI (p + 1) := by rw [hI_sI, if_pos rfl, if_pos rfl]
  have FR2 : FRm h (sI h1 m 22 (nI (p + 1))) m r := FRm.m f2 (fun j a b _ _ c _ => (g2 j a).trans (g1 j b c))
  have H2 : MFd (sI h1 m 22 (nI (p + 1))) m n t fa := ⟨H.1.fr f2 ((g2 21 (by decide)).trans (g1 21 (by decide) (by decide))) (by omega), ⟨p + 1, by omega, e222⟩, (g2 23 (by decide)).trans e231, H.2.2.2⟩
  generalize sI h1 m 22 (nI (p + 1)) = h2 at *
  have fin0 : Reach d nX12_compared (75, [.ref m, .int v1, .float 0], [.int 0]) h2 E1 E2 Q := by
    refine wX12_compared_75 (by omega) m v1 0 ?_
    simp only [mdq_0 H2.1.1, e222, true_and]
    refine ⟨fun _ => ?_, fun z => by first | exact absurd rfl z | exact absurd trivial z⟩
    exact cm90F hd m n r (p + 1) v1 0 0 0 t fa H2 (FR2.m30.trans e30) rfl (by omega) (FR2.1.2.2.1.trans n1) (FR2.1.2.2.2.1.trans n2) (fun h' f' H' => k h' (FR2.trans f') H')
  have fin1 : p + 1 < n → Reach d nX12_compared (75, [.ref m, .int v1, .float 0], [.int 1]) h2 E1 E2 Q := fun lt => by
    refine wX12_compared_75 (by omega) m v1 1 ?_
    simp only [mdq_0 H2.1.1, e222, true_and]
    refine ⟨fun z => absurd z (by decide), fun _ => ?_⟩
    exact cm90F hd m n r (p + 1) v1 1 1 1 t fa H2 (FR2.m30.trans e30) rfl (by omega) (FR2.1.2.2.1.trans n1) (FR2.1.2.2.2.1.trans n2) (fun h' f' H' => k h' (FR2.trans f') H')
  refine ⟨fun _ => wX12_compared_74 (by omega) m v1 fin0, fun _ => ?_⟩
  refine m_sign (h := h2) (by omega) m n (p + 1) t H2.1 (by omega) e222 ?_
  rw [rI_some]
  refine ⟨fun _ => wX12_compared_74 (by omega) m v1 fin0, fun z => fin1 ?_⟩
  rw [sg_eq H.1.2.2.2.2 (by decide) (by decide)] at z
  exact z.1
/-- what follows the first sum, where a fault stands -/
theorem cmA {d E1 E2 : Nat} {Q : Option Value → AH → Prop} {h : AH} (hd : 10 ≤ d) (m n r : Nat) (t : Nat → Int32) (fa : Int32) (H : MFd h m n t fa) (e30 : hI h m 30 = 12) (n1 : hN h = E1) (n2 : hU h = E2) (k : ∀ h', FRm h h' m r → MFd h' m n t fa → Q none h') : (hS h m).1 = 10 + 12 ∧ Calls d nX12_sign [.ref m] h (hN h) (hU h) (fun r4 h3 => rI r4 fun x5 => ((x5 : Int32) = 60 → Reach d nX12_compared (37, [.ref m, .int x5, .float 0], []) h3 E1 E2 Q) ∧ (¬ (x5 : Int32) = 60 → ((x5 : Int32) = 61 → Reach d nX12_compared (37, [.ref m, .int x5, .float 0], []) h3 E1 E2 Q) ∧ (¬ (x5 : Int32) = 61 → ((x5 : Int32) = 62 → Reach d nX12_compared (37, [.ref m, .int x5, .float 0], []) h3 E1 E2 Q) ∧ (¬ (x5 : Int32) = 62 → (hS h3 m).1 = 10 + 12 ∧ (hS h3 m).1 = 10 + 12 ∧ Calls d nX12_fails [.ref m, .int 0, .int (hI h3 m 22)] h3 (hN h3) (hU h3) (fun r7 h6 => rV r7 (RtOf none E1 E2 Q none h6)))))) := by
  obtain ⟨p, hp, e22⟩ := H.2.1
  have hn4 := H.1.2.2.1
  have hB := H.1.2.2.2.2
  have lt : ∀ c : Int32, 0 ≤ c → c < 128 → sgF t n p = c → p < n := fun c h0 h1 e => by rw [sg_eq hB h0 h1] at e; exact e.1
  refine ⟨by rw [mdq_0 H.1.1], m_sign (by omega) m n p t H.1 (by omega) e22 ?_⟩
  rw [rI_some]
  refine ⟨fun z => cm37F hd m n r p _ t fa H e30 e22 (lt 60 (by decide) (by decide) z) n1 n2 k, fun _ => ⟨fun z => cm37F hd m n r p _ t fa H e30 e22 (lt 61 (by decide) (by decide) z) n1 n2 k, fun _ => ⟨fun z => cm37F hd m n r p _ t fa H e30 e22 (lt 62 (by decide) (by decide) z) n1 n2 k, fun _ => ?_⟩⟩⟩
  refine ⟨by rw [mdq_0 H.1.1], by rw [mdq_0 H.1.1], ?_⟩
  rw [e22]
  refine m_fails (by omega) m 0 p H.1.1 (fun h1 f1 g1 g2 => ?_)
  rw [rV_none, rt_v]
  rw [H.2.2.1, rfF_st H.2.2.2] at g2
  exact ⟨f1.2.2.1.trans n1, f1.2.2.2.1.trans n2, k h1 (FRm.m f1 (fun j _ b _ _ _ _ => g1 j b)) ⟨H.1.fr f1 (g1 21 (by decide)) (by omega), ⟨p, hp, (g1 22 (by decide)).trans e22⟩, g2, H.2.2.2⟩⟩
theorem m_comparedF {d : Nat} {h : AH} {Q : Option Value → AH → Prop} (hd : 11 ≤ d) (m n r : Nat) (t : Nat → Int32) (fa : Int32) (H : MFd h m n t fa) (e30 : hI h m 30 = 12) (k : ∀ h', FRm h h' m r → MFd h' m n t fa → Q none h') : Calls d nX12_compared [.ref m] h (hN h) (hU h) Q := by
  obtain ⟨e, rfl⟩ : ∃ e, d = e + 1 := ⟨d - 1, by omega⟩
  refine wX12_compared (by omega) m ?_
  refine ⟨by rw [mdq_0 H.1.1], m_sumF (by omega) m n r t fa H e30 (fun h1 f1 H1 => ?_)⟩
  rw [rV_none]
  exact cmA (by omega) m n r t fa H1 (f1.m30.trans e30) f1.1.2.2.1 f1.1.2.2.2.1 (fun h' f' H' => k h' (f1.trans f') H')
