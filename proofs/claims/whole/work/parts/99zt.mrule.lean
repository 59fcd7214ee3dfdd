/-! the reference reads a rule: entries and values -/
def FRm (h h' : AH) (m r : Nat) : Prop := Fr' h h' (fun c => c = m ∨ c = m + 22 ∨ c = m + 23 ∨ False) ∧ (∀ j, j ≠ 22 → j ≠ 23 → j ≠ 26 → True → j ≠ 28 → True → hI h' m j = hI h m j) ∧ (∀ j, j < 300 * r ∨ 300 * r + 300 ≤ j → hI h' (m + 22) j = hI h (m + 22) j ∧ hI h' (m + 23) j = hI h (m + 23) j)
theorem FRm.refl (h : AH) (m r : Nat) : FRm h h m r := ⟨Fr'.refl _ _, fun _ _ _ _ _ _ _ => rfl, fun _ _ => ⟨rfl, rfl⟩⟩
theorem FRm.trans {h h1 h2 : AH} {m r : Nat} (a : FRm h h1 m r) (b : FRm h1 h2 m r) : FRm h h2 m r := ⟨a.1.trans b.1, fun j c1 c2 c3 c4 c5 c6 => (b.2.1 j c1 c2 c3 c4 c5 c6).trans (a.2.1 j c1 c2 c3 c4 c5 c6), fun j hj => ⟨(b.2.2 j hj).1.trans (a.2.2 j hj).1, (b.2.2 j hj).2.trans (a.2.2 j hj).2⟩⟩
theorem FRm.m {h h' : AH} {m r : Nat} (f : Fr' h h' (fun c => c = m)) (g : ∀ j, j ≠ 22 → j ≠ 23 → j ≠ 26 → True → j ≠ 28 → True → hI h' m j = hI h m j) : FRm h h' m r := ⟨f.mono (fun c z => Or.inl z), g, fun j _ => ⟨f.2.2.2.2.1 (m + 22) (by omega) j, f.2.2.2.2.1 (m + 23) (by omega) j⟩⟩
def ES (h : AH) (m r : Nat) (l : List (Nat × Nat)) : Prop := hI h m 26 = nI l.length ∧ ∀ (j : Nat) (q : Nat × Nat), l[j]? = some q → hI h (m + 22) (300 * r + j) = nI q.1 ∧ hI h (m + 23) (300 * r + j) = nI q.2
theorem ES.cg {h h' : AH} {m r : Nat} {l : List (Nat × Nat)} (H : ES h m r l) (e : hI h' m 26 = hI h m 26) (e2 : ∀ j, hI h' (m + 22) j = hI h (m + 22) j) (e3 : ∀ j, hI h' (m + 23) j = hI h (m + 23) j) : ES h' m r l := ⟨e.trans H.1, fun j q hq => by rw [e2, e3]; exact H.2 j q hq⟩
/-- no fault yet -/
def MM (h : AH) (m n r : Nat) (t : Nat → Int32) : MS → Prop
  | (p, st, pile, pa, cl, su, s) => MTp h m n t ∧ (hI h m 22 = nI p ∧ p ≤ n) ∧ hI h m 23 = 0 ∧ (hI h m 24 = nI r ∧ r < 6) ∧ ES h m r (flK cl ++ su ++ s) ∧ hI h m 28 = nI pa ∧ mInv (p, st, pile, pa, cl, su, s)
/-- a fault stands -/
def MFd (h : AH) (m n : Nat) (t : Nat → Int32) (fa : Int32) : Prop := MTp h m n t ∧ (∃ p, p ≤ n ∧ hI h m 22 = nI p) ∧ hI h m 23 = fa ∧ fa ≠ 0
def VP (h : AH) (m n r : Nat) (t : Nat → Int32) : MR → Prop
  | .inl (f, _) => MFd h m n t f
  | .inr σ => MM h m n r t σ
theorem MTp.frm {h h' : AH} {m n r : Nat} {t : Nat → Int32} (H : MTp h m n t) (f : FRm h h' m r) : MTp h' m n t := H.fr f.1 (f.2.1 21 (by decide) (by decide) (by decide) (by decide) (by decide) (by decide)) (fun z => by rcases z with z | z | z | z; all_goals first | omega | exact z)
theorem ent_lt {σ : MS} {p st pa : Nat} {pile : List Nat} {cl : List (List (Nat × Nat) × List (Nat × Nat))} {su s : List (Nat × Nat)} (e : σ = (p, st, pile, pa, cl, su, s)) (I : mInv σ) (hp : p ≤ 400) : (flK cl ++ su ++ s).length ≤ 260 := by
  subst e
  obtain ⟨-, ⟨-, i2, -, -⟩, -, ⟨N, i6, i7⟩, -⟩ := I
  have := brc_le pile
  split at i7 <;> omega
theorem m_entryF {d : Nat} {h : AH} {Q : Option Value → AH → Prop} (hd : 5 ≤ d) (m : Nat) (a b : Int32) (HM : ModAt h m) (hf : hI h m 23 ≠ 0) (k : Q none h) : Calls d nX12_entry [.ref m, .int a, .int b] h (hN h) (hU h) Q := by
  obtain ⟨e, rfl⟩ : ∃ e, d = e + 1 := ⟨d - 1, by omega⟩
  refine wX12_entry (by omega) m a b ?_
  simp only [rt_i, rt_b0, rt_b1, rt_v, rt_l, rt_o, rt_a, rV_none, rI_some, rL_some, rR_some, rT_some, rt_bI, hIf_sL, hIf_sR, hS_sI, hS_sL, hS_sR, hS_cpI, hR_sI, hR_sL, hR_cpI, hL_sI, hL_sR, hL_cpI, hI_sL, hI_sR, hN_sI, hN_sL, hN_sR, hN_cpI, hU_sI, hU_sL, hU_sR, hU_cpI, tn0, tn1, tn2, tn3, tn4, tn5, tn6, tn7, tn8, tn9, tn10, tn11, tn12, tn13, tn14, tn15, tn16, tn17, tn18, tn19, tn20, tn21, tn22, tn23, tn24, tn25, tn26, tn27, tn28, tn29, tn30, tn31, tn32, tn33, tn34, tn35, tn36, tn37, tn38, tn39, tn40, tn41, tn42, tn43, tn44, tn45, tn46, tn47, tn48, tn49, tn50, tn51, tn52, tn53, tn54, tn55, tn56, tn57, tn58, tn59, tn60, lH_eq, true_and, and_true, mdq_0 HM]
  exact ⟨fun _ => k, fun z => absurd z hf⟩
theorem m_entry {d : Nat} {h : AH} {Q : Option Value → AH → Prop} (hd : 5 ≤ d) (m n r j v : Nat) (t : Nat → Int32) (l : List (Nat × Nat)) (H : MTp h m n t) (e23 : hI h m 23 = 0) (e24 : hI h m 24 = nI r) (hr : r < 6) (E : ES h m r l) (hl : l.length < 300) (k : ∀ h', FRm h h' m r → (∀ j, j ≠ 26 → hI h' m j = hI h m j) → ES h' m r (l ++ [(j, v)]) → Q none h') : Calls d nX12_entry [.ref m, .int (nI j), .int (nI v)] h (hN h) (hU h) Q := by
  obtain ⟨e, rfl⟩ : ∃ e, d = e + 1 := ⟨d - 1, by omega⟩
  have HM := H.1
  have ix : 300 * nI r + nI l.length = nI (300 * r + l.length) := by rw [show (300 : Int32) = nI 300 from rfl, pk_mul, nI_add]
  have e26 : hI h m 26 = nI l.length := E.1
  have nm22 : (m = m + 22) = False := eq_false (by omega)
  have nm23 : (m = m + 23) = False := eq_false (by omega)
  refine wX12_entry (by omega) m (nI j) (nI v) ?_
  simp only [rt_i, rt_b0, rt_b1, rt_v, rt_l, rt_o, rt_a, rV_none, rI_some, rL_some, rR_some, rT_some, rt_bI, hIf_sL, hIf_sR, hS_sI, hS_sL, hS_sR, hS_cpI, hR_sI, hR_sL, hR_cpI, hL_sI, hL_sR, hL_cpI, hI_sL, hI_sR, hN_sI, hN_sL, hN_sR, hN_cpI, hU_sI, hU_sL, hU_sR, hU_cpI, tn0, tn1, tn2, tn3, tn4, tn5, tn6, tn7, tn8, tn9, tn10, tn11, tn12, tn13, tn14, tn15, tn16, tn17, tn18, tn19, tn20, tn21, tn22, tn23, tn24, tn25, tn26, tn27, tn28, tn29, tn30, tn31, tn32, tn33, tn34, tn35, tn36, tn37, tn38, tn39, tn40, tn41, tn42, tn43, tn44, tn45, tn46, tn47, tn48, tn49, tn50, tn51, tn52, tn53, tn54, tn55, tn56, tn57, tn58, tn59, tn60, lH_eq, true_and, and_true, mdq_0 HM, mdq_32 HM, mds_32 HM, mdq_33 HM, mds_33 HM, e23, e24, e26, ix, vp_in_nI (show 300 * r + l.length < 1800 by omega) (show 1800 < 2 ^ 31 by omega), nI_clamp (show 300 * r + l.length < 2 ^ 31 by omega), hI_sI, nm22, nm23, if_false, nI_1]
  refine ⟨fun z => (by first | exact absurd rfl z | exact absurd trivial z), fun _ => ?_⟩
  have f : Fr' h (sI (sI (sI h (m + 22) (300 * r + l.length) (nI j)) (m + 23) (300 * r + l.length) (nI v)) m 26 (nI (l.length + 1))) (fun c => c = m ∨ c = m + 22 ∨ c = m + 23 ∨ False) := ((Fr'.sI (S := fun c => c = m ∨ c = m + 22 ∨ c = m + 23 ∨ False) (Or.inr (Or.inl rfl))).trans (Fr'.sI (Or.inr (Or.inr (Or.inl rfl))))).trans (Fr'.sI (Or.inl rfl))
  have g : ∀ i, i ≠ 26 → hI (sI (sI (sI h (m + 22) (300 * r + l.length) (nI j)) (m + 23) (300 * r + l.length) (nI v)) m 26 (nI (l.length + 1))) m i = hI h m i := fun i hi => by rw [hI_sI, if_pos rfl, if_neg hi, hI_sI, if_neg (by omega), hI_sI, if_neg (by omega)]
  have g22 : ∀ i, hI (sI (sI (sI h (m + 22) (300 * r + l.length) (nI j)) (m + 23) (300 * r + l.length) (nI v)) m 26 (nI (l.length + 1))) (m + 22) i = if i = 300 * r + l.length then nI j else hI h (m + 22) i := fun i => by rw [hI_sI, if_neg (by omega), hI_sI, if_neg (by omega), hI_sI, if_pos rfl]
  have g23 : ∀ i, hI (sI (sI (sI h (m + 22) (300 * r + l.length) (nI j)) (m + 23) (300 * r + l.length) (nI v)) m 26 (nI (l.length + 1))) (m + 23) i = if i = 300 * r + l.length then nI v else hI h (m + 23) i := fun i => by
    have e0 : hI (sI h (m + 22) (300 * r + l.length) (nI j)) (m + 23) i = hI h (m + 23) i := by rw [hI_sI, if_neg (by omega)]
    rw [hI_sI, if_neg (by omega), hI_sI, if_pos rfl, e0]
  refine k _ ⟨f, fun i _ _ c _ _ _ => g i c, fun i hi => ⟨by rw [g22, if_neg (by omega)], by rw [g23, if_neg (by omega)]⟩⟩ g ⟨by rw [hI_sI, if_pos rfl, if_pos rfl]; simp, fun i q hq => ?_⟩
  rw [g22, g23]
  by_cases c : i < l.length
  · rw [List.getElem?_append_left c] at hq
    rw [if_neg (by omega), if_neg (by omega)]
    exact E.2 i q hq
  · have := getq_lt hq
    simp at this
    have e : i = l.length := by omega
    subst e
    rw [List.getElem?_append_right (Nat.le_refl _)] at hq
    simp at hq
    subst hq
    rw [if_pos rfl, if_pos rfl]
    exact ⟨rfl, rfl⟩
theorem m_isCounted {d : Nat} {h : AH} {Q : Option Value → AH → Prop} (hd : 6 ≤ d) (m q : Nat) (HM : ModAt h m) (k : ∀ h', Fr' h h' (fun c => c = m) → (∀ j, j ≠ 23 → j ≠ 28 → hI h' m j = hI h m j) → hI h' m 28 = hI h m 28 + 1 → hI h' m 23 = (if hI h m 28 = 60 then rfF (hI h m 23) q 3 else hI h m 23) → Q none h') : Calls d nX12_isCounted [.ref m, .int (nI q)] h (hN h) (hU h) Q := by
  obtain ⟨e, rfl⟩ : ∃ e, d = e + 1 := ⟨d - 1, by omega⟩
  refine wX12_isCounted (by omega) m (nI q) ?_
  simp only [rt_i, rt_b0, rt_b1, rt_v, rt_l, rt_o, rt_a, rV_none, rI_some, rL_some, rR_some, rT_some, rt_bI, hIf_sL, hIf_sR, hS_sI, hS_sL, hS_sR, hS_cpI, hR_sI, hR_sL, hR_cpI, hL_sI, hL_sR, hL_cpI, hI_sL, hI_sR, hN_sI, hN_sL, hN_sR, hN_cpI, hU_sI, hU_sL, hU_sR, hU_cpI, tn0, tn1, tn2, tn3, tn4, tn5, tn6, tn7, tn8, tn9, tn10, tn11, tn12, tn13, tn14, tn15, tn16, tn17, tn18, tn19, tn20, tn21, tn22, tn23, tn24, tn25, tn26, tn27, tn28, tn29, tn30, tn31, tn32, tn33, tn34, tn35, tn36, tn37, tn38, tn39, tn40, tn41, tn42, tn43, tn44, tn45, tn46, tn47, tn48, tn49, tn50, tn51, tn52, tn53, tn54, tn55, tn56, tn57, tn58, tn59, tn60, lH_eq, true_and, and_true, mdq_0 HM]
  refine ⟨fun z => ?_, fun z => ?_⟩
  · rw [if_neg z] at k
    exact k _ (Fr'.sI rfl) (fun j _ b => by rw [hI_sI, if_pos rfl, if_neg b]) (by rw [hI_sI, if_pos rfl, if_pos rfl]) (by rw [hI_sI, if_pos rfl, if_neg (by decide)])
  · rw [if_pos z] at k
    refine m_fails (by omega) m 3 q HM (fun h1 f1 g1 g2 => ?_)
    have HM1 := HM.fr f1
    simp only [rV_none, rt_i, rt_b0, rt_b1, rt_v, rt_l, rt_o, rt_a, rV_none, rI_some, rL_some, rR_some, rT_some, rt_bI, hIf_sL, hIf_sR, hS_sI, hS_sL, hS_sR, hS_cpI, hR_sI, hR_sL, hR_cpI, hL_sI, hL_sR, hL_cpI, hI_sL, hI_sR, hN_sI, hN_sL, hN_sR, hN_cpI, hU_sI, hU_sL, hU_sR, hU_cpI, tn0, tn1, tn2, tn3, tn4, tn5, tn6, tn7, tn8, tn9, tn10, tn11, tn12, tn13, tn14, tn15, tn16, tn17, tn18, tn19, tn20, tn21, tn22, tn23, tn24, tn25, tn26, tn27, tn28, tn29, tn30, tn31, tn32, tn33, tn34, tn35, tn36, tn37, tn38, tn39, tn40, tn41, tn42, tn43, tn44, tn45, tn46, tn47, tn48, tn49, tn50, tn51, tn52, tn53, tn54, tn55, tn56, tn57, tn58, tn59, tn60, lH_eq, true_and, and_true, mdq_0 HM1]
    exact ⟨f1.2.2.1, f1.2.2.2.1, k _ (f1.trans (Fr'.sI rfl)) (fun j a b => by rw [hI_sI, if_pos rfl, if_neg b, g1 j a]) (by rw [hI_sI, if_pos rfl, if_pos rfl, g1 28 (by decide)]) (by rw [hI_sI, if_pos rfl, if_neg (by decide)]; exact g2)⟩
theorem m_wordOf {d : Nat} {h : AH} {Q : Option Value → AH → Prop} (hd : 5 ≤ d) (j : Nat) (hj : j < 12) (k : Q (some (.retAddr (stI j))) h) : Calls d nX12_wordOf [.int (nI j)] h (hN h) (hU h) Q := by
  obtain ⟨e, rfl⟩ : ∃ e, d = e + 1 := ⟨d - 1, by omega⟩
  refine wX12_wordOf (by omega) (nI j) ?_
  have : j = 0 ∨ j = 1 ∨ j = 2 ∨ j = 3 ∨ j = 4 ∨ j = 5 ∨ j = 6 ∨ j = 7 ∨ j = 8 ∨ j = 9 ∨ j = 10 ∨ j = 11 := by omega
  have ev : ∀ i, i < 12 → ((nI j = nI i) = (j = i)) := fun i hi => nI_eq_iff (by omega) (by omega)
  have e0 : (nI j = (0 : Int32)) = (j = 0) := ev 0 (by decide)
  have e1 : (nI j = (1 : Int32)) = (j = 1) := ev 1 (by decide)
  have e2 : (nI j = (2 : Int32)) = (j = 2) := ev 2 (by decide)
  have e3 : (nI j = (3 : Int32)) = (j = 3) := ev 3 (by decide)
  have e4 : (nI j = (4 : Int32)) = (j = 4) := ev 4 (by decide)
  have e5 : (nI j = (5 : Int32)) = (j = 5) := ev 5 (by decide)
  have e6 : (nI j = (6 : Int32)) = (j = 6) := ev 6 (by decide)
  have e7 : (nI j = (7 : Int32)) = (j = 7) := ev 7 (by decide)
  have e8 : (nI j = (8 : Int32)) = (j = 8) := ev 8 (by decide)
  have e9 : (nI j = (9 : Int32)) = (j = 9) := ev 9 (by decide)
  have e10 : (nI j = (10 : Int32)) = (j = 10) := ev 10 (by decide)
  simp only [e0, e1, e2, e3, e4, e5, e6, e7, e8, e9, e10]
  have rt : ∀ a, a = stI j → RtOf (some (.object "java/lang/String")) (hN h) (hU h) Q (some (.retAddr a)) h := fun a ha => ⟨rfl, rfl, by rw [ha]; exact k⟩
  refine ⟨fun z => rt _ (by subst z; rfl), fun z0 => ⟨fun z => rt _ (by subst z; rfl), fun z1 => ⟨fun z => rt _ (by subst z; rfl), fun z2 => ⟨fun z => rt _ (by subst z; rfl), fun z3 => ⟨fun z => rt _ (by subst z; rfl), fun z4 => ⟨fun z => rt _ (by subst z; rfl), fun z5 => ⟨fun z => rt _ (by subst z; rfl), fun z6 => ⟨fun z => rt _ (by subst z; rfl), fun z7 => ⟨fun z => rt _ (by subst z; rfl), fun z8 => ⟨fun z => rt _ (by subst z; rfl), fun z9 => ⟨fun z => rt _ (by subst z; rfl), fun z10 => rt _ ?_⟩⟩⟩⟩⟩⟩⟩⟩⟩⟩⟩
  have : j = 11 := by omega
  subst this
  rfl
