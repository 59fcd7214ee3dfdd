/-! the reference's tape -/
def byB (c : Int32) : Prop := ∃ i, i < 256 ∧ c = nI i - 128
theorem by_and {c : Int32} (h : byB c) : (0 ≤ c ∧ c &&& 255 = c) ∨ (c < 0 ∧ 128 ≤ c &&& 255) := by
  obtain ⟨i, hi, rfl⟩ := h
  have key : ∀ i, i < 256 → (0 ≤ nI i - 128 ∧ (nI i - 128) &&& 255 = nI i - 128) ∨ (nI i - 128 < 0 ∧ 128 ≤ (nI i - 128) &&& 255) := by decide +kernel
  exact key i hi
theorem by_eq255 {c k : Int32} (h : byB c) (h0 : 0 ≤ k) (h1 : k < 128) : (c &&& 255 = k) = (c = k) := by
  rcases by_and h with ⟨a, b⟩ | ⟨a, b⟩
  · rw [b]
  · apply propext
    constructor
    · intro e
      rw [e] at b
      exact absurd h1 (Int32.not_lt.mpr b)
    · intro e
      rw [e] at a
      exact absurd a (Int32.not_lt.mpr h0)
def sgF (t : Nat → Int32) (n p : Nat) : Int32 := if p < n then t p &&& 255 else -1
theorem sg_eq {t : Nat → Int32} {n p : Nat} {k : Int32} (hb : ∀ i, i < n → byB (t i)) (h0 : 0 ≤ k) (h1 : k < 128) : (sgF t n p = k) = (p < n ∧ t p = k) := by
  unfold sgF
  by_cases c : p < n
  · rw [if_pos c, by_eq255 (hb p c) h0 h1]
    simp [c]
  · rw [if_neg c]
    apply propext
    constructor
    · intro e
      rw [← e] at h0
      exact absurd h0 (by decide)
    · intro e
      exact absurd e.1 c
def MTp (h : AH) (m n : Nat) (t : Nat → Int32) : Prop := ModAt h m ∧ hI h m 21 = nI n ∧ n ≤ 400 ∧ (∀ i, i < n → hI h (m + 21) i = t i) ∧ (∀ i, i < n → byB (t i))
theorem MTp.fr {h h' : AH} {m n : Nat} {t : Nat → Int32} {S : Nat → Prop} (H : MTp h m n t) (f : Fr' h h' S) (e : hI h' m 21 = hI h m 21) (hs : ¬ S (m + 21)) : MTp h' m n t := by
  obtain ⟨a, b, c, d, e'⟩ := H
  exact ⟨a.fr f, by rw [e]; exact b, c, fun i hi => by rw [f.2.2.2.2.1 _ hs]; exact d i hi, e'⟩
theorem m_sign {d : Nat} {h : AH} {Q : Option Value → AH → Prop} (hd : 5 ≤ d) (m n p : Nat) (t : Nat → Int32) (H : MTp h m n t) (hp : p ≤ 1000) (e22 : hI h m 22 = nI p) (k : Q (some (.int (sgF t n p))) h) : Calls d nX12_sign [.ref m] h (hN h) (hU h) Q := by
  obtain ⟨e, rfl⟩ : ∃ e, d = e + 1 := ⟨d - 1, by omega⟩
  obtain ⟨HM, b, c, hT, hB⟩ := H
  refine wX12_sign (by omega) m ?_
  simp only [rt_i, rt_b0, rt_b1, rt_v, rt_l, rt_o, rt_a, rV_none, rI_some, rL_some, rR_some, rT_some, rt_bI, hIf_sL, hIf_sR, hS_sI, hS_sL, hS_sR, hS_cpI, hR_sI, hR_sL, hR_cpI, hL_sI, hL_sR, hL_cpI, hI_sL, hI_sR, hN_sI, hN_sL, hN_sR, hN_cpI, hU_sI, hU_sL, hU_sR, hU_cpI, tn0, tn1, tn2, tn3, tn4, tn5, tn6, tn7, tn8, tn9, tn10, tn11, tn12, tn13, tn14, tn15, tn16, tn17, tn18, tn19, tn20, tn21, tn22, tn23, tn24, tn25, tn26, tn27, tn28, tn29, tn30, tn31, tn32, tn33, tn34, tn35, tn36, tn37, tn38, tn39, tn40, tn41, tn42, tn43, tn44, tn45, tn46, tn47, tn48, tn49, tn50, tn51, tn52, tn53, tn54, tn55, tn56, tn57, tn58, tn59, tn60, lH_eq, true_and, and_true, mdq_0 HM, mdq_31 HM, mds_31 HM, b, e22, nI_le_iff (show n < 2 ^ 31 by omega) (show p < 2 ^ 31 by omega), nI_clamp (show p < 2 ^ 31 by omega), true_or]
  unfold sgF at k
  refine ⟨fun z => by rwa [if_neg (by omega)] at k, fun z => ⟨vp_in_nI (by omega) (by decide), ?_⟩⟩
  rw [hT p (by omega)]
  rwa [if_pos (by omega)] at k
theorem mbl_loop {d E1 E2 : Nat} {Q : Option Value → AH → Prop} (hd : 5 ≤ d) (m n : Nat) (t : Nat → Int32) : ∀ (w p : Nat) (h : AH), p + w = n → MTp h m n t → hI h m 22 = nI p → hN h = E1 → hU h = E2 → (∀ h', Fr' h h' (fun c => c = m) → (∀ j, j ≠ 22 → hI h' m j = hI h m j) → hI h' m 22 = nI (sk t n p) → Q none h') → Reach d nX12_blanks (0, [.ref m], []) h E1 E2 Q
  | 0, p, h, hp, H, e22, n1, n2, k => by
    have HM := H.1
    have hn := H.2.2.1
    refine wX12_blanks_0 (by omega) m ?_
    simp only [mdq_0 HM, true_and]
    refine m_sign (by omega) m n p t H (by omega) e22 ?_
    simp only [rI_some, rt_i, rt_b0, rt_b1, rt_v, rt_l, rt_o, rt_a, rV_none, rI_some, rL_some, rR_some, rT_some, sg_eq H.2.2.2.2 (k := 32) (by decide) (by decide)]
    rw [show sk t n p = p from ru_end (by omega)] at k
    exact ⟨fun _ => ⟨n1, n2, k h (Fr'.refl _ _) (fun _ _ => rfl) e22⟩, fun z => by omega⟩
  | w + 1, p, h, hp, H, e22, n1, n2, k => by
    have HM := H.1
    have hn := H.2.2.1
    refine wX12_blanks_0 (by omega) m ?_
    simp only [mdq_0 HM, true_and]
    refine m_sign (by omega) m n p t H (by omega) e22 ?_
    simp only [rI_some, rt_i, rt_b0, rt_b1, rt_v, rt_l, rt_o, rt_a, rV_none, rI_some, rL_some, rR_some, rT_some, rt_bI, hIf_sL, hIf_sR, hS_sI, hS_sL, hS_sR, hS_cpI, hR_sI, hR_sL, hR_cpI, hL_sI, hL_sR, hL_cpI, hI_sL, hI_sR, hN_sI, hN_sL, hN_sR, hN_cpI, hU_sI, hU_sL, hU_sR, hU_cpI, tn0, tn1, tn2, tn3, tn4, tn5, tn6, tn7, tn8, tn9, tn10, tn11, tn12, tn13, tn14, tn15, tn16, tn17, tn18, tn19, tn20, tn21, tn22, tn23, tn24, tn25, tn26, tn27, tn28, tn29, tn30, tn31, tn32, tn33, tn34, tn35, tn36, tn37, tn38, tn39, tn40, tn41, tn42, tn43, tn44, tn45, tn46, tn47, tn48, tn49, tn50, tn51, tn52, tn53, tn54, tn55, tn56, tn57, tn58, tn59, tn60, lH_eq, true_and, and_true, mdq_0 HM, e22, nI_1, sg_eq H.2.2.2.2 (k := 32) (by decide) (by decide)]
    refine ⟨fun z => ?_, fun z => ?_⟩
    · rw [show sk t n p = p from ru_no (by rw [isSp_iff]; exact fun y => z ⟨by omega, y⟩)] at k
      exact ⟨n1, n2, k h (Fr'.refl _ _) (fun _ _ => rfl) e22⟩
    · rw [show sk t n p = sk t n (p + 1) from ru_go (by omega) (by rw [isSp_iff]; exact z.2)] at k
      have f : Fr' h (sI h m 22 (nI (p + 1))) (fun c => c = m) := Fr'.sI rfl
      have g : ∀ j, j ≠ 22 → hI (sI h m 22 (nI (p + 1))) m j = hI h m j := fun j hj => by rw [hI_sI, if_pos rfl, if_neg hj]
      exact mbl_loop hd m n t w (p + 1) _ (by omega) (H.fr f (g 21 (by decide)) (by omega)) (by rw [hI_sI, if_pos rfl, if_pos rfl]) n1 n2 (fun h' f' g' q => k h' (f.trans f') (fun j hj => (g' j hj).trans (g j hj)) q)
theorem m_blanks {d : Nat} {h : AH} {Q : Option Value → AH → Prop} (hd : 6 ≤ d) (m n p : Nat) (t : Nat → Int32) (H : MTp h m n t) (hp : p ≤ n) (e22 : hI h m 22 = nI p) (k : ∀ h', Fr' h h' (fun c => c = m) → (∀ j, j ≠ 22 → hI h' m j = hI h m j) → hI h' m 22 = nI (sk t n p) → Q none h') : Calls d nX12_blanks [.ref m] h (hN h) (hU h) Q := by
  obtain ⟨e, rfl⟩ : ∃ e, d = e + 1 := ⟨d - 1, by omega⟩
  exact calls_intro (q := (yX12_blanks, cX12_blanks, 1, none, 12, 1, 0)) rfl (Nat.le_refl _) (Nat.le_refl _) (Nat.le_of_ble_eq_true rfl) (mbl_loop (by omega) m n t (n - p) p h (by omega) H e22 rfl rfl k)
theorem m_isDigit {d : Nat} {h : AH} {Q : Option Value → AH → Prop} (hd : 6 ≤ d) (m n p : Nat) (t : Nat → Int32) (H : MTp h m n t) (hp : p ≤ 1000) (e22 : hI h m 22 = nI p) (k : Q (some (.int (bI (p < n ∧ isDg (t p) = true)))) h) : Calls d nX12_isDigit [.ref m] h (hN h) (hU h) Q := by
  obtain ⟨e, rfl⟩ : ∃ e, d = e + 1 := ⟨d - 1, by omega⟩
  refine wX12_isDigit (by omega) m ?_
  simp only [mdq_0 H.1, true_and]
  refine m_sign (by omega) m n p t H hp e22 ?_
  rw [rI_some]
  refine m_in32 (by omega) (sgF t n p) 48 57 rfl rfl rfl ?_
  simp only [rI_some, rt_i, rt_b0, rt_b1, rt_v, rt_l, rt_o, rt_a, rV_none, rI_some, rL_some, rR_some, rT_some, rt_bI, hIf_sL, hIf_sR, hS_sI, hS_sL, hS_sR, hS_cpI, hR_sI, hR_sL, hR_cpI, hL_sI, hL_sR, hL_cpI, hI_sL, hI_sR, hN_sI, hN_sL, hN_sR, hN_cpI, hU_sI, hU_sL, hU_sR, hU_cpI, tn0, tn1, tn2, tn3, tn4, tn5, tn6, tn7, tn8, tn9, tn10, tn11, tn12, tn13, tn14, tn15, tn16, tn17, tn18, tn19, tn20, tn21, tn22, tn23, tn24, tn25, tn26, tn27, tn28, tn29, tn30, tn31, tn32, tn33, tn34, tn35, tn36, tn37, tn38, tn39, tn40, tn41, tn42, tn43, tn44, tn45, tn46, tn47, tn48, tn49, tn50, tn51, tn52, tn53, tn54, tn55, tn56, tn57, tn58, tn59, tn60, lH_eq, true_and, and_true]
  have iff : (48 ≤ sgF t n p ∧ sgF t n p ≤ 57) ↔ (p < n ∧ isDg (t p) = true) := by
    have i2 : (isDg (t p) = true) ↔ (48 ≤ t p ∧ t p ≤ 57) := decide_eq_true_iff
    rw [i2]
    unfold sgF
    by_cases c : p < n
    · rw [if_pos c]
      rcases by_and (H.2.2.2.2 p c) with ⟨a, b⟩ | ⟨a, b⟩
      · rw [b]; simp [c]
      · constructor
        · intro z
          exact absurd (Int32.le_trans b z.2) (by decide)
        · intro z
          exact absurd (Int32.lt_of_le_of_lt z.2.1 a) (by decide)
    · rw [if_neg c]
      constructor
      · intro z; exact absurd z.1 (by decide)
      · intro z; exact absurd z.1 c
  by_cases c : p < n ∧ isDg (t p) = true
  · rw [bI_t c] at k
    rw [bI_t (iff.mpr c)]
    exact k
  · rw [bI_f c] at k
    rw [bI_f (fun z => c (iff.mp z))]
    exact k
theorem m_fails {d : Nat} {h : AH} {Q : Option Value → AH → Prop} (hd : 5 ≤ d) (m c q : Nat) (H : ModAt h m) (k : ∀ h', Fr' h h' (fun c => c = m) → (∀ j, j ≠ 23 → hI h' m j = hI h m j) → hI h' m 23 = rfF (hI h m 23) q c → Q none h') : Calls d nX12_fails [.ref m, .int (nI c), .int (nI q)] h (hN h) (hU h) Q := by
  obtain ⟨e, rfl⟩ : ∃ e, d = e + 1 := ⟨d - 1, by omega⟩
  have e8 : 1 + 8 * nI q + nI c = nI (1 + 8 * q + c) := by
    rw [show (8 : Int32) = nI 8 from rfl, show (1 : Int32) = nI 1 from rfl, pk_mul, nI_add, nI_add]
  refine wX12_fails (by omega) m (nI c) (nI q) ?_
  simp only [rt_i, rt_b0, rt_b1, rt_v, rt_l, rt_o, rt_a, rV_none, rI_some, rL_some, rR_some, rT_some, rt_bI, hIf_sL, hIf_sR, hS_sI, hS_sL, hS_sR, hS_cpI, hR_sI, hR_sL, hR_cpI, hL_sI, hL_sR, hL_cpI, hI_sL, hI_sR, hN_sI, hN_sL, hN_sR, hN_cpI, hU_sI, hU_sL, hU_sR, hU_cpI, tn0, tn1, tn2, tn3, tn4, tn5, tn6, tn7, tn8, tn9, tn10, tn11, tn12, tn13, tn14, tn15, tn16, tn17, tn18, tn19, tn20, tn21, tn22, tn23, tn24, tn25, tn26, tn27, tn28, tn29, tn30, tn31, tn32, tn33, tn34, tn35, tn36, tn37, tn38, tn39, tn40, tn41, tn42, tn43, tn44, tn45, tn46, tn47, tn48, tn49, tn50, tn51, tn52, tn53, tn54, tn55, tn56, tn57, tn58, tn59, tn60, lH_eq, true_and, and_true, mdq_0 H, e8]
  refine ⟨fun z => ?_, fun z => ?_⟩
  · exact k _ (Fr'.sI rfl) (fun j hj => by rw [hI_sI, if_pos rfl, if_neg hj]) (by rw [hI_sI, if_pos rfl, if_pos rfl]; exact (if_neg z).symm)
  · exact k _ (Fr'.sI rfl) (fun j hj => by rw [hI_sI, if_pos rfl, if_neg hj]) (by rw [hI_sI, if_pos rfl, if_pos rfl]; exact (if_pos z).symm)
/-- string v is word k -/
def stI (k : Nat) : Nat := [2, 3, 5, 6, 7, 8, 9, 10, 11, 12, 13, 14, 1, 4, 15, 17, 18, 16].getD k 0
theorem stI_ok : ∀ k, k < 18 → stI k < 19 ∧ strB.getD (stI k) [] = wd k ∧ strLen.getD (stI k) 0 = (wd k).length ∧ 2 ≤ (wd k).length ∧ (wd k).length ≤ 6 := by decide
theorem ms_loop {d E1 E2 : Nat} {Q : Option Value → AH → Prop} {h : AH} (hd : 4 ≤ d) (m n p e k : Nat) (t : Nat → Int32) (H : MTp h m n t) (hk : k < 18) (e22 : hI h m 22 = nI p) (he : e ≤ n) (hl : p + (wd k).length = e) (n1 : hN h = E1) (n2 : hU h = E2) (kk : Q (some (.int (bI (eqW t p e k)))) h) : ∀ w c : Nat, c + w = (wd k).length → (∀ j, j < c → t (p + j) = (wd k).getD j 0) → Reach d nX12_stood (63, [.ref m, .retAddr (stI k), .float 0, .int 1, .int (nI c)], []) h E1 E2 Q
  | 0, c, hc, ha => by
    obtain ⟨s1, s2, s3, s4, s5⟩ := stI_ok k hk
    refine wX12_stood_63 hd m (stI k) 1 (nI c) ?_
    have : c = (wd k).length := by omega
    subst this
    have eo : Int32.ofNat (wd k).length = nI (wd k).length := rfl
    simp only [s3, eo, rt_i, rt_b0, rt_b1, rt_v, rt_l, rt_o, rt_a, rV_none, rI_some, rL_some, rR_some, rT_some, rt_b1, nI_le_iff (show (wd k).length < 2 ^ 31 by omega) (show (wd k).length < 2 ^ 31 by omega)]
    rw [bI_t ⟨hl, ha⟩] at kk
    exact ⟨s1, fun _ => ⟨n1, n2, kk⟩, fun z => absurd (Nat.le_refl _) z⟩
  | w + 1, c, hc, ha => by
    obtain ⟨s1, s2, s3, s4, s5⟩ := stI_ok k hk
    obtain ⟨HM, b, c4, hT, hB⟩ := H
    refine wX12_stood_63 hd m (stI k) 1 (nI c) ?_
    have eo : Int32.ofNat (wd k).length = nI (wd k).length := rfl
    simp only [s2, s3, eo, e22, rt_i, rt_b0, rt_b1, rt_v, rt_l, rt_o, rt_a, rV_none, rI_some, rL_some, rR_some, rT_some, rt_bI, hIf_sL, hIf_sR, hS_sI, hS_sL, hS_sR, hS_cpI, hR_sI, hR_sL, hR_cpI, hL_sI, hL_sR, hL_cpI, hI_sL, hI_sR, hN_sI, hN_sL, hN_sR, hN_cpI, hU_sI, hU_sL, hU_sR, hU_cpI, tn0, tn1, tn2, tn3, tn4, tn5, tn6, tn7, tn8, tn9, tn10, tn11, tn12, tn13, tn14, tn15, tn16, tn17, tn18, tn19, tn20, tn21, tn22, tn23, tn24, tn25, tn26, tn27, tn28, tn29, tn30, tn31, tn32, tn33, tn34, tn35, tn36, tn37, tn38, tn39, tn40, tn41, tn42, tn43, tn44, tn45, tn46, tn47, tn48, tn49, tn50, tn51, tn52, tn53, tn54, tn55, tn56, tn57, tn58, tn59, tn60, lH_eq, true_and, and_true, mdq_0 HM, mdq_31 HM, mds_31 HM, nI_add, nI_1, nI_le_iff (show (wd k).length < 2 ^ 31 by omega) (show c < 2 ^ 31 by omega), nI_clamp (show c < 2 ^ 31 by omega), nI_clamp (show p + c < 2 ^ 31 by omega), hT (p + c) (by omega), true_or, vp_in_nI (show p + c < 400 by omega) (show 400 < 2 ^ 31 by decide), vp_in_nI (show c < (wd k).length by omega) (show (wd k).length < 2 ^ 31 by omega)]
    refine ⟨s1, fun z => absurd z (by omega), fun _ => ⟨fun z => absurd z (by decide), fun _ => ⟨s1, fun z => ?_, fun z => ?_⟩⟩⟩
    · have no : ¬ eqW t p e k := fun y => z (y.2 c (by omega))
      rw [bI_f no] at kk
      refine wX12_stood_63 hd m (stI k) 0 (nI (c + 1)) ?_
      simp only [s2, s3, eo, rt_i, rt_b0, rt_b1, rt_v, rt_l, rt_o, rt_a, rV_none, rI_some, rL_some, rR_some, rT_some, rt_b0, true_and]
      exact ⟨s1, fun _ => ⟨n1, n2, kk⟩, fun _ => ⟨fun _ => ⟨n1, n2, kk⟩, fun z => by first | exact absurd rfl z | exact absurd trivial z⟩⟩
    · refine ms_loop hd m n p e k t ⟨HM, b, c4, hT, hB⟩ hk e22 he hl n1 n2 kk w (c + 1) (by omega) (fun j hj => ?_)
      by_cases u : j = c
      · rw [u]; exact z
      · exact ha j (by omega)
