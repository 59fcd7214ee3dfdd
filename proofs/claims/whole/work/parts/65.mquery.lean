/-! questions to the reference: days on the town itself, which is laid back behind -/
def GS (m : Nat) : Nat → Prop := fun b => b = m + 1 ∨ b = m + 2 ∨ b = m + 3 ∨ b = m + 6 ∨ b = m + 29 ∨ b = m + 30 ∨ b = m + 31
def QW (m : Nat) : Nat → Prop := fun c => c = m ∨ (m + 1 ≤ c ∧ c ≤ m + 14) ∨ (m + 29 ≤ c ∧ c ≤ m + 42)
def QC (h : AH) (m nr nw : Nat) (A N : PC) (R : Option (List (List (Nat × Nat) × List (Nat × Nat)))) (od : Nat → Option Int32) : Prop := ModAt h m ∧ MHil h m nr nw A ∧ eqM nr nw (rM h m) N ∧ MFor h m R ∧ MOrd h m nr od
theorem qc_goes {d : Nat} {h : AH} {Q : Option Value → AH → Prop} (hd : 11 ≤ d) (m nr nw : Nat) (A N : PC) (R : Option (List (List (Nat × Nat) × List (Nat × Nat)))) (od : Nat → Option Int32) {D : Int} (H : QC h m nr nw A N R od) (hA : hilOk nr nw A) (hN0 : momOk D nr nw N) (k : ∀ h', Fr' h h' (GS m) → (∀ j, j ≠ 3 → hI h' (m + 1) j = hI h (m + 1) j) → QC h' m nr nw A (paF R A nr nw od N) R od → Q (some (.int (biF (gtF R A nr nw od N) nw))) h') : Calls d nX12_goes [.ref m] h (hN h) (hU h) Q := by
  obtain ⟨H0, H1, H2, H3, H4⟩ := H
  refine m_goes hd m nr nw R od A N H0 H1 H2 H3 H4 hA hN0 (fun h' f q1 q2 => ?_)
  have g : ∀ b, ¬ GS m b → ∀ j, hI h' b j = hI h b j := fun b hb j => f.2.2.2.2.1 b hb j
  obtain ⟨a1, a2, a3, a4, a5⟩ := H1
  have eA : rA h' m = rA h m := by
    funext k j
    unfold rA
    split
    · exact q1 0 (by decide)
    · exact g (m + 12) (by unfold GS; omega) j
    · exact g (m + 13) (by unfold GS; omega) j
    · exact g (m + 14) (by unfold GS; omega) j
    · exact g (m + 7) (by unfold GS; omega) j
    · exact g (m + 8) (by unfold GS; omega) j
  refine k h' f q1 ⟨H0.fr f, ⟨by rw [q1 1 (by decide)]; exact a1, by rw [q1 2 (by decide)]; exact a2, by rw [eA]; exact a3, by rw [eA]; exact a4, by rw [eA]; exact a5⟩, q2, H3.cg (fun b h1 h2 => g b (by unfold GS; omega)) (q1 6 (by decide)), fun j hj => by rw [g (m + 32) (by unfold GS; omega)]; exact H4 j hj⟩
theorem gf_loop {d E1 E2 : Nat} {Q : Option Value → AH → Prop} (hd : 11 ≤ d) (m nr nw : Nat) (A N : PC) (R : Option (List (List (Nat × Nat) × List (Nat × Nat)))) (days : Nat) {D : Int} (hD : D ≤ 500000) (hdays : days ≤ 1000) (hA : hilOk nr nw A) (hN0 : momOk D nr nw N) (k0 : AH) (e1 : hN k0 = E1) (e2 : hU k0 = E2) (k : ∀ h', Fr' k0 h' (GS m) → (∀ j, j ≠ 3 → hI h' (m + 1) j = hI k0 (m + 1) j) → QC h' m nr nw A (itF R A nr nw days N) R (fun _ => none) → Q none h') : ∀ (n i : Nat) (h : AH), i + n = days → QC h m nr nw A (itF R A nr nw i N) R (fun _ => none) → Fr' k0 h (GS m) → (∀ j, j ≠ 3 → hI h (m + 1) j = hI k0 (m + 1) j) → Reach d nX12_goFor (2, [.ref m, .int (nI days), .int (nI i)], []) h E1 E2 Q
  | 0, i, h, hi, H, f, q => by
    have : i = days := by omega
    subst this
    refine wX12_goFor_2 (by omega) m (nI i) (nI i) ?_
    simp only [rt_i, rt_b0, rt_b1, rt_v, rt_l, rt_o, rt_a, rV_none, rI_some, rL_some, rR_some, rT_some, rt_bI, hIf_sL, hIf_sR, hS_sI, hS_sL, hS_sR, hS_cpI, hR_sI, hR_sL, hR_cpI, hL_sI, hL_sR, hL_cpI, hI_sL, hI_sR, hN_sI, hN_sL, hN_sR, hN_cpI, hU_sI, hU_sL, hU_sR, hU_cpI, tn0, tn1, tn2, tn3, tn4, tn5, tn6, tn7, tn8, tn9, tn10, tn11, tn12, tn13, tn14, tn15, tn16, tn17, tn18, tn19, tn20, tn21, tn22, tn23, tn24, tn25, tn26, tn27, tn28, tn29, tn30, tn31, tn32, tn33, tn34, tn35, tn36, tn37, tn38, tn39, tn40, tn41, tn42, tn43, tn44, tn45, tn46, tn47, tn48, tn49, tn50, tn51, tn52, tn53, tn54, tn55, tn56, tn57, tn58, tn59, tn60, lH_eq, true_and, and_true, nI_le_iff (show i < 2 ^ 31 by omega) (show i < 2 ^ 31 by omega)]
    exact ⟨fun _ => ⟨f.2.2.1.trans e1, f.2.2.2.1.trans e2, k h f q H⟩, fun z => absurd (Nat.le_refl i) z⟩
  | n + 1, i, h, hi, H, f, q => by
    refine wX12_goFor_2 (by omega) m (nI days) (nI i) ?_
    simp only [rt_i, rt_b0, rt_b1, rt_v, rt_l, rt_o, rt_a, rV_none, rI_some, rL_some, rR_some, rT_some, rt_bI, hIf_sL, hIf_sR, hS_sI, hS_sL, hS_sR, hS_cpI, hR_sI, hR_sL, hR_cpI, hL_sI, hL_sR, hL_cpI, hI_sL, hI_sR, hN_sI, hN_sL, hN_sR, hN_cpI, hU_sI, hU_sL, hU_sR, hU_cpI, tn0, tn1, tn2, tn3, tn4, tn5, tn6, tn7, tn8, tn9, tn10, tn11, tn12, tn13, tn14, tn15, tn16, tn17, tn18, tn19, tn20, tn21, tn22, tn23, tn24, tn25, tn26, tn27, tn28, tn29, tn30, tn31, tn32, tn33, tn34, tn35, tn36, tn37, tn38, tn39, tn40, tn41, tn42, tn43, tn44, tn45, tn46, tn47, tn48, tn49, tn50, tn51, tn52, tn53, tn54, tn55, tn56, tn57, tn58, tn59, tn60, lH_eq, true_and, and_true, mdq_0 H.1, nI_le_iff (show days < 2 ^ 31 by omega) (show i < 2 ^ 31 by omega)]
    refine ⟨fun z => absurd z (by omega), fun _ => ?_⟩
    refine qc_goes (by omega) m nr nw A _ R _ H hA (itF_ok hA hN0 hD i (by omega)) (fun h' f' q' H' => ?_)
    simp only [rI_some, nI_1]
    exact gf_loop hd m nr nw A N R days hD hdays hA hN0 k0 e1 e2 k n (i + 1) h' (by omega) H' (f.trans f') (fun j hj => (q' j hj).trans (q j hj))
theorem qc_goFor {d : Nat} {h : AH} {Q : Option Value → AH → Prop} (hd : 12 ≤ d) (m nr nw : Nat) (A N : PC) (R : Option (List (List (Nat × Nat) × List (Nat × Nat)))) (days : Nat) {D : Int} (hD : D ≤ 500000) (hdays : days ≤ 1000) (hA : hilOk nr nw A) (hN0 : momOk D nr nw N) (H : QC h m nr nw A N R (fun _ => none)) (k : ∀ h', Fr' h h' (GS m) → (∀ j, j ≠ 3 → hI h' (m + 1) j = hI h (m + 1) j) → QC h' m nr nw A (itF R A nr nw days N) R (fun _ => none) → Q none h') : Calls d nX12_goFor [.ref m, .int (nI days)] h (hN h) (hU h) Q := by
  obtain ⟨e, rfl⟩ : ∃ e, d = e + 1 := ⟨d - 1, by omega⟩
  exact wX12_goFor (by omega) m (nI days) (gf_loop (by omega) m nr nw A N R days hD hdays hA hN0 h rfl rfl k days 0 h (by omega) H (Fr'.refl _ _) (fun _ _ => rfl))
def six : List Nat := [1, 2, 3, 4, 5, 6]
def nine : List Nat := [7, 8, 9, 10, 11, 12, 13, 14, 33]
theorem nine_rows : ∀ r ∈ nine, r ∈ rowsL ∧ r ≠ 34 ∧ 34 < ofR r + lnR r ∧ 7 ≤ r ∧ r ≤ 33 := by decide
theorem six_rows : ∀ r ∈ six, r ∈ rowsL ∧ ofR r + lnR r ≤ 34 ∧ 1 ≤ r ∧ r ≤ 6 := by decide
/-- the rows of h0 are kept, nothing but what questions use has changed -/
def Sv (h0 h : AH) (m : Nat) : Prop := Fr' h0 h (QW m) ∧ (∀ j, j ≠ 57 → j ≠ 58 → hI h m j = hI h0 m j) ∧ (∀ r ∈ six, ∀ j, j < lnR r → hI h (m + 42) (2800 + ofR r + j) = hI h0 (m + r) j) ∧ (∀ j, j < 2800 → hI h (m + 42) j = hI h0 (m + 42) j) ∧ (∀ r ∈ nine, ∀ j, hI h (m + r) j = hI h0 (m + r) j)
def Rs (h0 h : AH) (m : Nat) : Prop := Sv h0 h m ∧ (∀ r ∈ six, ∀ j, j < lnR r → hI h (m + r) j = hI h0 (m + r) j)
theorem sv_keeps {d : Nat} {h : AH} {Q : Option Value → AH → Prop} (hd : 7 ≤ d) (m : Nat) (H : ModAt h m) (k : ∀ h', Rs h h' m → (∀ j, hI h' (m + 32) j = hI h (m + 32) j) → Q none h') : Calls d nX12_keepsAll [.ref m] h (hN h) (hU h) Q := by
  refine m_keepsAll hd m H (fun h' c => ?_)
  obtain ⟨f, c1, c2, c3, c4, c5⟩ := c
  refine k h' ⟨⟨f.mono (fun b z => by unfold QW; omega), c3, fun r hr j hj => ?_, fun j hj => c5 j (by omega), fun r hr j => ?_⟩, fun r hr j hj => ?_⟩ (f.2.2.2.2.1 (m + 32) (by omega))
  · have hs := six_rows r hr
    rw [c4 r hs.1 j hj hs.2.1]
    unfold refP
    rw [if_neg (by omega)]
  · have hs := nine_rows r hr
    exact f.2.2.2.2.1 (m + r) (by omega) j
  · have hs := six_rows r hr
    exact f.2.2.2.2.1 (m + r) (by omega) j
theorem sv_lays {d : Nat} {h : AH} {Q : Option Value → AH → Prop} {h0 : AH} (hd : 7 ≤ d) (m : Nat) (H : ModAt h0 m) (S : Sv h0 h m) (k : ∀ h', Rs h0 h' m → Fr' h h' (fun b => b = m ∨ ∃ r ∈ rowsL, b = m + r) → (∀ j, hI h' (m + 32) j = hI h (m + 32) j) → Q none h') : Calls d nX12_laysBack [.ref m] h (hN h) (hU h) Q := by
  refine m_laysBack hd m (H.fr S.1) (fun h' c c45 => ?_)
  obtain ⟨f, c1, c2, c3, c4, c5⟩ := c
  have n32 : ¬ (m + 32 = m ∨ ∃ r ∈ rowsL, m + 32 = m + r) := fun z => by
    rcases z with z | ⟨r, hr, z⟩
    · omega
    · have h2 : r = 32 := by omega
      subst h2
      exact absurd hr (by decide)
  have n42 : ¬ (m + 42 = m ∨ ∃ r ∈ rowsL, m + 42 = m + r) := fun z => by
    rcases z with z | ⟨r, hr, z⟩
    · omega
    · have h2 : r = 42 := by omega
      subst h2
      exact absurd hr (by decide)
  have f2 : Fr' h h' (QW m) := f.mono (fun b z => by
    rcases z with z | ⟨r, hr, z⟩
    · exact Or.inl z
    · have : ∀ r ∈ rowsL, r ≤ 14 ∨ 29 ≤ r := by decide
      have h1 := this r hr
      have h2 := rows_lt r hr
      unfold QW
      omega)
  obtain ⟨s1, s2, s3, s4, s5⟩ := S
  have e42 : ∀ j, hI h' (m + 42) j = hI h (m + 42) j := f.2.2.2.2.1 (m + 42) n42
  refine k h' ⟨⟨s1.trans f2, fun j j1 j2 => ?_, fun r hr j hj => ?_, fun j hj => ?_, fun r hr j => ?_⟩, fun r hr j hj => ?_⟩ f (f.2.2.2.2.1 (m + 32) n32)
  · by_cases c : j = 45
    · subst c; rw [c45]; exact s2 45 j1 j2
    · rw [c3 j c j1 j2]; exact s2 j j1 j2
  · rw [e42]; exact s3 r hr j hj
  · rw [e42]; exact s4 j hj
  · have hs := nine_rows r hr
    rw [c5 r hs.1 hs.2.1 hs.2.2.1 j]; exact s5 r hr j
  · have hs := six_rows r hr
    rw [c4 r hs.1 j hj hs.2.1]; exact s3 r hr j hj
