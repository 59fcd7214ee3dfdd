/-! what is got and paid on a day -/
theorem sp_payRivals {d : Nat} {h : AH} {Q : Option Value → AH → Prop} (hd : 6 ≤ d) (c a m f w nr : Nat) (hcm : c + 2 ≠ m + 2) (ham : a ≠ m + 2) (hf : f < 5) (hr5 : nr ≤ 5) (hw : w < 6) (HC : CouAt h c) (H : HillAt h a) (HM : MomAt h m) (hn : hI h a 1 = nI nr) (k : ∀ h', Fr' h h' (fun b => b = m + 2) → (∀ j, hI h' (m + 2) j = pyF (hI h (c + 2)) f w (hI h (m + 2)) nr j) → Q none h') : Calls d nX1_payRivals [.ref c, .int (nI f), .int (nI w), .ref a, .ref m] h (hN h) (hU h) Q := by
  obtain ⟨e, rfl⟩ : ∃ e, d = e + 1 := ⟨d - 1, by omega⟩
  exact wX1_payRivals (by omega) c (nI f) (nI w) a m (py_loop (by omega) c a m f w nr (hI h (c + 2)) (hI h (m + 2)) hcm ham hf hr5 hw nr 0 h (by omega) HC H HM hn (fun _ => rfl) (fun _ => rfl) rfl rfl k)
/-- purses and wealth behind the first n wares -/
def rwF (ai : Nat → Int32) (nr : Nat) (wo : Nat → Int32) (gt : Nat → Option Nat) (pu we : Nat → Int32) : Nat → (Nat → Int32) × (Nat → Int32)
  | 0 => (pu, we)
  | n + 1 => match gt n with
    | none => rwF ai nr wo gt pu we n
    | some f => (pyF ai f n (rwF ai nr wo gt pu we n).1 nr, upd (rwF ai nr wo gt pu we n).2 f (if (rwF ai nr wo gt pu we n).2 f + wo n < 9999 then (rwF ai nr wo gt pu we n).2 f + wo n else 9999))
theorem pyF_congr {ai bi f g : Nat → Int32} {x w : Nat} (e1 : ∀ j, ai j = bi j) (e2 : ∀ j, f j = g j) (n j : Nat) : pyF ai x w f n j = pyF bi x w g n j := by
  rw [show ai = bi from funext e1, show f = g from funext e2]
theorem rw_loop {d E1 E2 : Nat} {Q : Option Value → AH → Prop} (hd : 6 ≤ d) (c a m nr nw : Nat) (ai pu we wo : Nat → Int32) (gt : Nat → Option Nat) (hcm : ∀ x, x = c ∨ x = c + 2 → ¬ (x = m + 2 ∨ x = m + 3)) (ham : ∀ x, x = a ∨ x = a + 4 → ¬ (x = m + 2 ∨ x = m + 3)) (hg : ∀ w f, gt w = some f → f < 5) (hr5 : nr ≤ 5) (hw : nw ≤ 6) : ∀ (n i : Nat) (h : AH), i + n = nw → CouAt h c → HillAt h a → MomAt h m → hI h a 1 = nI nr → hI h a 2 = nI nw → (∀ j, hI h (c + 2) j = ai j) → (∀ j, hI h (a + 4) j = wo j) → (∀ j, j < nw → hI h (m + 5) j = oI (gt j)) → (∀ j, hI h (m + 2) j = (rwF ai nr wo gt pu we i).1 j) → (∀ j, hI h (m + 3) j = (rwF ai nr wo gt pu we i).2 j) → hN h = E1 → hU h = E2 → (∀ h', Fr' h h' (fun b => b = m + 2 ∨ b = m + 3) → (∀ j, hI h' (m + 2) j = (rwF ai nr wo gt pu we nw).1 j) → (∀ j, hI h' (m + 3) j = (rwF ai nr wo gt pu we nw).2 j) → Q none h') → Reach d nX1_reward (2, [.ref c, .ref a, .ref m, .int (nI i), .float 0], []) h E1 E2 Q
  | 0, i, h, hi, HC, H, HM, hn, hn2, hai, hwo, hgt, hpu, hwe, e1, e2, k => by
    refine wX1_reward_2 (by omega) c a m (nI i) ⟨by rw [H.1], fun _ => ?_, fun z => absurd (by rw [hn2]; exact nI_le (by omega) (by omega)) z⟩
    have : i = nw := by omega
    subst this
    rw [rt_v]
    exact ⟨e1, e2, k h (Fr'.refl _ _) hpu hwe⟩
  | n + 1, i, h, hi, HC, H, HM, hn, hn2, hai, hwo, hgt, hpu, hwe, e1, e2, k => by
    have hs : rwF ai nr wo gt pu we (i + 1) = match gt i with
      | none => rwF ai nr wo gt pu we i
      | some f => (pyF ai f i (rwF ai nr wo gt pu we i).1 nr, upd (rwF ai nr wo gt pu we i).2 f (if (rwF ai nr wo gt pu we i).2 f + wo i < 9999 then (rwF ai nr wo gt pu we i).2 f + wo i else 9999)) := rfl
    have HMM := HM
    obtain ⟨t0, r1, r2, r3, r4, r5, s1, s2, s3, s4, s5⟩ := HM
    have HH := H
    obtain ⟨a0, p3, p4, p5, p6, p7, v1, v2, v3, v4, v5⟩ := H
    have hv : vp_in (nI i) 6 := vp_in_nI (by omega) (by decide)
    have hc : (nI i).toNatClampNeg = i := nI_clamp (by omega)
    refine wX1_reward_2 (by omega) c a m (nI i) ⟨by rw [a0], fun z => absurd (by rw [hn2] at z; exact z) (nI_ge (by omega) (by omega)), fun _ => ?_⟩
    simp only [t0, r5, r3, s5, s3, hv, hc, true_and, hgt i (by omega), a0, p6, v4, lH_eq, hS_sI, hS_sL, hS_sR, hS_cpI, hR_sI, hR_sL, hR_cpI, hL_sI, hL_sR, hL_cpI, hI_sL, hI_sR, hN_sI, hN_sL, hN_sR, hN_cpI, hU_sI, hU_sL, hU_sR, hU_cpI]
    cases hgi : gt i with
    | none =>
      rw [hgi] at hs
      refine ⟨fun _ => ?_, fun z => absurd rfl z⟩
      rw [nI_1]
      exact rw_loop hd c a m nr nw ai pu we wo gt hcm ham hg hr5 hw n (i + 1) h (by omega) HC HH HMM hn hn2 hai hwo hgt (fun j => by rw [hs]; exact hpu j) (fun j => by rw [hs]; exact hwe j) e1 e2 k
    | some f =>
      rw [hgi] at hs
      have hf := hg i f hgi
      have hvf : vp_in (nI f) 5 := vp_in_nI hf (by decide)
      have hcf : (nI f).toNatClampNeg = f := nI_clamp (by omega)
      refine ⟨fun z => absurd z (nI_ne_m1 (by omega)), fun _ => ?_⟩
      simp only [oI, hcf, hvf, true_and, hwe, hwo, HC.1]
      have fr1 : ∀ x, Fr' h (sI h (m + 3) f x) (fun b => b = m + 2 ∨ b = m + 3) := fun x => Fr'.sI (Or.inr rfl)
      refine sp_payRivals hd c a m f i nr (fun z => hcm _ (Or.inr rfl) (Or.inl z)) (fun z => ham _ (Or.inl rfl) (Or.inl z)) hf hr5 (by omega) (HC.fr (fr1 _)) (HH.fr (fr1 _)) (HMM.fr (fr1 _)) (by rw [(fr1 _).2.2.2.2.1 a (ham _ (Or.inl rfl)), hn]) (fun h' fr g => ?_)
      rw [rV_none, nI_1]
      have fr2 := (fr1 _).trans (fr.mono (T := fun b => b = m + 2 ∨ b = m + 3) (fun b z => Or.inl z))
      refine rw_loop hd c a m nr nw ai pu we wo gt hcm ham hg hr5 hw n (i + 1) h' (by omega) (HC.fr fr2) (HH.fr fr2) (HMM.fr fr2) (by rw [fr2.2.2.2.2.1 a (ham _ (Or.inl rfl)), hn]) (by rw [fr2.2.2.2.2.1 a (ham _ (Or.inl rfl)), hn2]) (fun j => by rw [fr2.2.2.2.2.1 (c + 2) (hcm _ (Or.inr rfl)), hai]) (fun j => by rw [fr2.2.2.2.2.1 (a + 4) (ham _ (Or.inr rfl)), hwo]) (fun j hj => by rw [fr2.2.2.2.2.1 (m + 5) (by omega), hgt j hj]) (fun j => ?_) (fun j => ?_) (fr2.2.2.1.trans e1) (fr2.2.2.2.1.trans e2) (fun h2 f2 g2 g3 => k h2 (fr2.trans f2) g2 g3)
      · rw [g j, hs]
        refine pyF_congr (fun j => ?_) (fun j => ?_) nr j
        · rw [hI_sI, if_neg (fun z => hcm _ (Or.inr rfl) (Or.inr z)), hai]
        · rw [hI_sI, if_neg (by omega), hpu]
      · rw [fr.2.2.2.2.1 (m + 3) (by omega), hI_sI, if_pos rfl, hs]
        simp only [upd]
        by_cases hj : j = f
        · rw [if_pos hj, if_pos hj]
        · rw [if_neg hj, if_neg hj, hwe]
theorem sp_reward {d : Nat} {h : AH} {Q : Option Value → AH → Prop} (hd : 7 ≤ d) (c a m nr nw : Nat) (gt : Nat → Option Nat) (hcm : ∀ x, x = c ∨ x = c + 2 → ¬ (x = m + 2 ∨ x = m + 3)) (ham : ∀ x, x = a ∨ x = a + 4 → ¬ (x = m + 2 ∨ x = m + 3)) (hg : ∀ w f, gt w = some f → f < 5) (hr5 : nr ≤ 5) (hw : nw ≤ 6) (HC : CouAt h c) (H : HillAt h a) (HM : MomAt h m) (hn : hI h a 1 = nI nr) (hn2 : hI h a 2 = nI nw) (hgt : ∀ j, j < nw → hI h (m + 5) j = oI (gt j)) (k : ∀ h', Fr' h h' (fun b => b = m + 2 ∨ b = m + 3) → (∀ j, hI h' (m + 2) j = (rwF (hI h (c + 2)) nr (hI h (a + 4)) gt (hI h (m + 2)) (hI h (m + 3)) nw).1 j) → (∀ j, hI h' (m + 3) j = (rwF (hI h (c + 2)) nr (hI h (a + 4)) gt (hI h (m + 2)) (hI h (m + 3)) nw).2 j) → Q none h') : Calls d nX1_reward [.ref c, .ref a, .ref m] h (hN h) (hU h) Q := by
  obtain ⟨e, rfl⟩ : ∃ e, d = e + 1 := ⟨d - 1, by omega⟩
  exact wX1_reward (by omega) c a m (rw_loop (by omega) c a m nr nw (hI h (c + 2)) (hI h (m + 2)) (hI h (m + 3)) (hI h (a + 4)) gt hcm ham hg hr5 hw nw 0 h (by omega) HC H HM hn hn2 (fun _ => rfl) (fun _ => rfl) hgt (fun _ => rfl) (fun _ => rfl) rfl rfl k)
