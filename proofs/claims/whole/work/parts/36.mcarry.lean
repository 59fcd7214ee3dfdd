/-! the reference's images: rows laid one behind another -/
def rowsL : List Nat := [1, 2, 3, 4, 5, 6, 34, 7, 8, 9, 10, 11, 12, 13, 14, 33]
def ofR (r : Nat) : Nat := match r with
  | 1 => 0
  | 2 => 7
  | 3 => 12
  | 4 => 17
  | 5 => 22
  | 6 => 28
  | 34 => 34
  | 7 => 35
  | 8 => 41
  | 9 => 47
  | 10 => 57
  | 11 => 67
  | 12 => 77
  | 13 => 82
  | 14 => 87
  | _ => 93
def lnR (r : Nat) : Nat := match r with
  | 1 => 7
  | 2 => 5
  | 3 => 5
  | 4 => 5
  | 5 => 6
  | 6 => 6
  | 34 => 1
  | 7 => 6
  | 8 => 6
  | 9 => 10
  | 10 => 10
  | 11 => 10
  | 12 => 5
  | 13 => 5
  | 14 => 6
  | _ => 560
theorem rows_apart : ∀ r ∈ rowsL, ∀ s ∈ rowsL, ofR s + lnR s ≤ ofR r + lnR r → s = r ∨ ofR s + lnR s ≤ ofR r := by decide
theorem rows_lt : ∀ r ∈ rowsL, 1 ≤ lnR r ∧ lnR r ≤ 560 ∧ ofR r + lnR r ≤ 653 ∧ 1 ≤ r ∧ r ≤ 34 := by decide
theorem rows_sh {h : AH} {m : Nat} (H : ModAt h m) : ∀ r ∈ rowsL, hS h (m + r) = (1, lnR r) := by
  intro r hr
  simp only [rowsL, List.mem_cons, List.not_mem_nil, or_false] at hr
  rcases hr with rfl | rfl | rfl | rfl | rfl | rfl | rfl | rfl | rfl | rfl | rfl | rfl | rfl | rfl | rfl | rfl
  · exact mds_1 H
  · exact mds_2 H
  · exact mds_3 H
  · exact mds_4 H
  · exact mds_5 H
  · exact mds_6 H
  · exact mds_44 H
  · exact mds_7 H
  · exact mds_8 H
  · exact mds_9 H
  · exact mds_10 H
  · exact mds_11 H
  · exact mds_12 H
  · exact mds_13 H
  · exact mds_14 H
  · exact mds_43 H
def refP (h : AH) (m : Nat) : Nat → Nat → Int32 := fun r j => if r = 34 then hI h m 45 else hI h (m + r) j
theorem crs_loop {d E1 E2 : Nat} {Q : Option Value → AH → Prop} (hd : 4 ≤ d) (m r n0 o : Nat) (h0 : 1 ≤ r) (hr : r ≤ 34) (hn0 : n0 ≤ 560) (ho : o + n0 ≤ 3500) : ∀ (n i : Nat) (h : AH), i + n = n0 → ModAt h m → hS h (m + r) = (1, n0) → hI h m 58 = 0 → hI h m 57 = nI (o + i) → hN h = E1 → hU h = E2 → (∀ h', Fr' h h' (fun b => b = m ∨ b = m + 42) → hI h' m 57 = nI (o + n0) → (∀ j, j ≠ 57 → hI h' m j = hI h m j) → (∀ j, hI h' (m + 42) j = if o + i ≤ j ∧ j < o + n0 then hI h (m + r) (j - o) else hI h (m + 42) j) → Q none h') → Reach d nX12_carryRow (2, [.ref m, .ref (m + r), .int (nI i)], []) h E1 E2 Q
  | 0, i, h, hi, H, hs, hb, ha, e1, e2, k => by
    have : i = n0 := by omega
    subst this
    refine wX12_carryRow_2 hd m (m + r) (nI i) ?_
    have h5 : (Int32.ofNat i ≤ nI i) = (i ≤ i) := nI_le_iff (by omega) (by omega)
    simp only [rt_i, rt_b0, rt_b1, rt_v, rt_l, rt_o, rt_a, rV_none, rI_some, rL_some, rR_some, rT_some, rt_bI, hIf_sL, hIf_sR, hS_sI, hS_sL, hS_sR, hS_cpI, hR_sI, hR_sL, hR_cpI, hL_sI, hL_sR, hL_cpI, hI_sL, hI_sR, hN_sI, hN_sL, hN_sR, hN_cpI, hU_sI, hU_sL, hU_sR, hU_cpI, tn0, tn1, tn2, tn3, tn4, tn5, tn6, tn7, tn8, tn9, tn10, tn11, tn12, tn13, tn14, tn15, tn16, tn17, tn18, tn19, tn20, tn21, tn22, tn23, tn24, tn25, tn26, tn27, tn28, tn29, tn30, tn31, tn32, tn33, tn34, tn35, tn36, tn37, tn38, tn39, tn40, tn41, tn42, tn43, tn44, tn45, tn46, tn47, tn48, tn49, tn50, tn51, tn52, tn53, tn54, tn55, tn56, tn57, tn58, tn59, tn60, lH_eq, true_and, and_true, hs, h5]
    exact ⟨by decide, by decide, fun _ => ⟨e1, e2, k h (Fr'.refl _ _) ha (fun _ _ => rfl) (fun j => by rw [if_neg (by omega)])⟩, fun z => absurd (Nat.le_refl i) z⟩
  | n + 1, i, h, hi, H, hs, hb, ha, e1, e2, k => by
    refine wX12_carryRow_2 hd m (m + r) (nI i) ?_
    have h5 : (Int32.ofNat n0 ≤ nI i) = (n0 ≤ i) := nI_le_iff (by omega) (by omega)
    simp only [rt_i, rt_b0, rt_b1, rt_v, rt_l, rt_o, rt_a, rV_none, rI_some, rL_some, rR_some, rT_some, rt_bI, hIf_sL, hIf_sR, hS_sI, hS_sL, hS_sR, hS_cpI, hR_sI, hR_sL, hR_cpI, hL_sI, hL_sR, hL_cpI, hI_sL, hI_sR, hN_sI, hN_sL, hN_sR, hN_cpI, hU_sI, hU_sL, hU_sR, hU_cpI, tn0, tn1, tn2, tn3, tn4, tn5, tn6, tn7, tn8, tn9, tn10, tn11, tn12, tn13, tn14, tn15, tn16, tn17, tn18, tn19, tn20, tn21, tn22, tn23, tn24, tn25, tn26, tn27, tn28, tn29, tn30, tn31, tn32, tn33, tn34, tn35, tn36, tn37, tn38, tn39, tn40, tn41, tn42, tn43, tn44, tn45, tn46, tn47, tn48, tn49, tn50, tn51, tn52, tn53, tn54, tn55, tn56, tn57, tn58, tn59, tn60, lH_eq, true_and, and_true, hs, h5, mdq_0 H, mdq_55 H, mds_55 H, hb, ha, vp_in_nI (show o + i < 3500 by omega) (show 3500 < 2 ^ 31 by omega), nI_clamp (show o + i < 2 ^ 31 by omega), vp_in_nI (show i < n0 by omega) (show n0 < 2 ^ 31 by omega), nI_clamp (show i < 2 ^ 31 by omega), hI_sI, show (m = m + 42) = False by simp, if_false, nI_1]
    refine ⟨by decide, by decide, fun z => absurd z (by omega), fun _ => ⟨fun _ => ?_, fun z => absurd (by trivial) z⟩⟩
    refine crs_loop hd m r n0 o h0 hr hn0 ho n (i + 1) _ (by omega) H hs (by simp only [hI_sI]; grind) (by simp only [hI_sI]; grind) e1 e2 (fun h' f q1 q2 q3 => k h' (((Fr'.sI (Or.inr rfl)).trans (Fr'.sI (Or.inl rfl))).trans f) q1 (fun j hj => ?_) (fun j => ?_))
    · rw [q2 j hj]
      simp only [hI_sI, if_true, if_neg hj, show (m = m + 42) = False by simp, if_false]
    · rw [q3 j]
      have e3 : (m + r = m + 42) = False := by simp; omega
      have e4 : (m + r = m) = False := by simp; omega
      simp only [hI_sI, show (m + 42 = m) = False by simp, e3, e4, if_false, if_true]
      by_cases c : o + (i + 1) ≤ j ∧ j < o + n0
      · rw [if_pos c, if_pos (by omega)]
      · rw [if_neg c]
        by_cases c2 : j = o + i
        · subst c2
          rw [if_pos rfl, if_pos (by omega)]
          congr 1
          omega
        · rw [if_neg c2, if_neg (by omega)]
theorem crl_loop {d E1 E2 : Nat} {Q : Option Value → AH → Prop} (hd : 4 ≤ d) (m r n0 o : Nat) (h0 : 1 ≤ r) (hr : r ≤ 34) (hn0 : n0 ≤ 560) (ho : o + n0 ≤ 3500) : ∀ (n i : Nat) (h : AH), i + n = n0 → ModAt h m → hS h (m + r) = (1, n0) → hI h m 58 = 1 → hI h m 57 = nI (o + i) → hN h = E1 → hU h = E2 → (∀ h', Fr' h h' (fun b => b = m ∨ b = m + r) → hI h' m 57 = nI (o + n0) → (∀ j, j ≠ 57 → hI h' m j = hI h m j) → (∀ j, hI h' (m + r) j = if i ≤ j ∧ j < n0 then hI h (m + 42) (o + j) else hI h (m + r) j) → Q none h') → Reach d nX12_carryRow (2, [.ref m, .ref (m + r), .int (nI i)], []) h E1 E2 Q
  | 0, i, h, hi, H, hs, hb, ha, e1, e2, k => by
    have : i = n0 := by omega
    subst this
    refine wX12_carryRow_2 hd m (m + r) (nI i) ?_
    have h5 : (Int32.ofNat i ≤ nI i) = (i ≤ i) := nI_le_iff (by omega) (by omega)
    simp only [rt_i, rt_b0, rt_b1, rt_v, rt_l, rt_o, rt_a, rV_none, rI_some, rL_some, rR_some, rT_some, rt_bI, hIf_sL, hIf_sR, hS_sI, hS_sL, hS_sR, hS_cpI, hR_sI, hR_sL, hR_cpI, hL_sI, hL_sR, hL_cpI, hI_sL, hI_sR, hN_sI, hN_sL, hN_sR, hN_cpI, hU_sI, hU_sL, hU_sR, hU_cpI, tn0, tn1, tn2, tn3, tn4, tn5, tn6, tn7, tn8, tn9, tn10, tn11, tn12, tn13, tn14, tn15, tn16, tn17, tn18, tn19, tn20, tn21, tn22, tn23, tn24, tn25, tn26, tn27, tn28, tn29, tn30, tn31, tn32, tn33, tn34, tn35, tn36, tn37, tn38, tn39, tn40, tn41, tn42, tn43, tn44, tn45, tn46, tn47, tn48, tn49, tn50, tn51, tn52, tn53, tn54, tn55, tn56, tn57, tn58, tn59, tn60, lH_eq, true_and, and_true, hs, h5]
    exact ⟨by decide, by decide, fun _ => ⟨e1, e2, k h (Fr'.refl _ _) ha (fun _ _ => rfl) (fun j => by rw [if_neg (by omega)])⟩, fun z => absurd (Nat.le_refl i) z⟩
  | n + 1, i, h, hi, H, hs, hb, ha, e1, e2, k => by
    refine wX12_carryRow_2 hd m (m + r) (nI i) ?_
    have h5 : (Int32.ofNat n0 ≤ nI i) = (n0 ≤ i) := nI_le_iff (by omega) (by omega)
    have e0 : (m = m + r) = False := by simp; omega
    simp only [rt_i, rt_b0, rt_b1, rt_v, rt_l, rt_o, rt_a, rV_none, rI_some, rL_some, rR_some, rT_some, rt_bI, hIf_sL, hIf_sR, hS_sI, hS_sL, hS_sR, hS_cpI, hR_sI, hR_sL, hR_cpI, hL_sI, hL_sR, hL_cpI, hI_sL, hI_sR, hN_sI, hN_sL, hN_sR, hN_cpI, hU_sI, hU_sL, hU_sR, hU_cpI, tn0, tn1, tn2, tn3, tn4, tn5, tn6, tn7, tn8, tn9, tn10, tn11, tn12, tn13, tn14, tn15, tn16, tn17, tn18, tn19, tn20, tn21, tn22, tn23, tn24, tn25, tn26, tn27, tn28, tn29, tn30, tn31, tn32, tn33, tn34, tn35, tn36, tn37, tn38, tn39, tn40, tn41, tn42, tn43, tn44, tn45, tn46, tn47, tn48, tn49, tn50, tn51, tn52, tn53, tn54, tn55, tn56, tn57, tn58, tn59, tn60, lH_eq, true_and, and_true, hs, h5, mdq_0 H, mdq_55 H, mds_55 H, hb, ha, vp_in_nI (show o + i < 3500 by omega) (show 3500 < 2 ^ 31 by omega), nI_clamp (show o + i < 2 ^ 31 by omega), vp_in_nI (show i < n0 by omega) (show n0 < 2 ^ 31 by omega), nI_clamp (show i < 2 ^ 31 by omega), hI_sI, e0, if_false, nI_1]
    refine ⟨by decide, by decide, fun z => absurd z (by omega), fun _ => ⟨fun z => absurd z (by decide), fun _ => ?_⟩⟩
    refine crl_loop hd m r n0 o h0 hr hn0 ho n (i + 1) _ (by omega) H hs (by simp only [hI_sI]; grind) (by simp only [hI_sI]; grind) e1 e2 (fun h' f q1 q2 q3 => k h' (((Fr'.sI (Or.inr rfl)).trans (Fr'.sI (Or.inl rfl))).trans f) q1 (fun j hj => ?_) (fun j => ?_))
    · rw [q2 j hj]
      simp only [hI_sI, if_true, if_neg hj, e0, if_false]
    · rw [q3 j]
      have e3 : (m + 42 = m + r) = False := by simp; omega
      have e4 : (m + r = m) = False := by simp; omega
      simp only [hI_sI, show (m + 42 = m) = False by simp, e3, e4, if_false, if_true]
      by_cases c : i + 1 ≤ j ∧ j < n0
      · rw [if_pos c, if_pos (by omega)]
      · rw [if_neg c]
        by_cases c2 : j = i
        · subst c2
          rw [if_pos rfl, if_pos (by omega)]
        · rw [if_neg c2, if_neg (by omega)]
/-- while rows are laid into an image from 'base' on: n places are laid -/
def CS (h0 h : AH) (m base n : Nat) : Prop := Fr' h0 h (fun b => b = m ∨ b = m + 34 ∨ b = m + 42) ∧ hI h m 58 = 0 ∧ hI h m 57 = nI (base + n) ∧ (∀ j, j ≠ 57 → j ≠ 58 → hI h m j = hI h0 m j) ∧ (∀ r ∈ rowsL, ∀ j, j < lnR r → ofR r + lnR r ≤ n → hI h (m + 42) (base + ofR r + j) = refP h0 m r j) ∧ (∀ j, (j < base ∨ base + n ≤ j) → hI h (m + 42) j = hI h0 (m + 42) j)
theorem cs_step {d : Nat} {h : AH} {Q : Option Value → AH → Prop} {h0 : AH} (hd : 5 ≤ d) (m base r : Nat) (H : ModAt h0 m) (hr : r ∈ rowsL) (hb : base + 653 ≤ 3500) (c : CS h0 h m base (ofR r)) (row : ∀ j, j < lnR r → hI h (m + r) j = refP h0 m r j) (k : ∀ h', CS h0 h' m base (ofR r + lnR r) → hI h' (m + 34) = hI h (m + 34) → Q none h') : Calls d nX12_carryRow [.ref m, .ref (m + r)] h (hN h) (hU h) Q := by
  obtain ⟨e, rfl⟩ : ∃ e, d = e + 1 := ⟨d - 1, by omega⟩
  obtain ⟨f, c1, c2, c3, c4, c5⟩ := c
  have hl := rows_lt r hr
  refine wX12_carryRow (by omega) m (m + r) (crs_loop (by omega) m r (lnR r) (base + ofR r) hl.2.2.2.1 hl.2.2.2.2 hl.2.1 (by omega) (lnR r) 0 h (by omega) (H.fr f) (by rw [f.1]; exact rows_sh H r hr) c1 c2 rfl rfl (fun h' f' q1 q2 q3 => k h' ⟨f.trans (f'.mono (fun b z => by omega)), ?_, ?_, ?_, ?_, ?_⟩ (funext (f'.2.2.2.2.1 (m + 34) (by omega)))))
  · rw [q2 58 (by decide)]; exact c1
  · rw [q1, Nat.add_assoc]
  · intro j h1 h2
    rw [q2 j h1]; exact c3 j h1 h2
  · intro s hs j hj hle
    rw [q3]
    rcases rows_apart r hr s hs hle with e | e
    · subst e
      rw [if_pos (by omega), ← row j hj]
      congr 1
      omega
    · rw [if_neg (by omega)]
      exact c4 s hs j hj e
  · intro j hj
    rw [q3, if_neg (by omega)]
    exact c5 j (by omega)
/-- while rows are taken out of an image -/
def CLd (h0 h : AH) (m base n : Nat) : Prop := Fr' h0 h (fun b => b = m ∨ ∃ r ∈ rowsL, b = m + r) ∧ hI h m 58 = 1 ∧ hI h m 57 = nI (base + n) ∧ (∀ j, j ≠ 45 → j ≠ 57 → j ≠ 58 → hI h m j = hI h0 m j) ∧ (∀ r ∈ rowsL, ∀ j, j < lnR r → ofR r + lnR r ≤ n → hI h (m + r) j = hI h0 (m + 42) (base + ofR r + j)) ∧ (∀ r ∈ rowsL, r ≠ 34 → n < ofR r + lnR r → ∀ j, hI h (m + r) j = hI h0 (m + r) j)
theorem cl_step {d : Nat} {h : AH} {Q : Option Value → AH → Prop} {h0 : AH} (hd : 5 ≤ d) (m base r : Nat) (H : ModAt h0 m) (hr : r ∈ rowsL) (hb : base + 653 ≤ 3500) (c : CLd h0 h m base (ofR r)) (k : ∀ h', CLd h0 h' m base (ofR r + lnR r) → hI h' m 45 = hI h m 45 → Q none h') : Calls d nX12_carryRow [.ref m, .ref (m + r)] h (hN h) (hU h) Q := by
  obtain ⟨e, rfl⟩ : ∃ e, d = e + 1 := ⟨d - 1, by omega⟩
  obtain ⟨f, c1, c2, c3, c4, c5⟩ := c
  have hl := rows_lt r hr
  refine wX12_carryRow (by omega) m (m + r) (crl_loop (by omega) m r (lnR r) (base + ofR r) hl.2.2.2.1 hl.2.2.2.2 hl.2.1 (by omega) (lnR r) 0 h (by omega) (H.fr f) (by rw [f.1]; exact rows_sh H r hr) c1 c2 rfl rfl (fun h' f' q1 q2 q3 => k h' ⟨f.trans (f'.mono (fun b z => z.elim Or.inl (fun z => Or.inr ⟨r, hr, z⟩))), ?_, ?_, ?_, ?_, ?_⟩ (q2 45 (by decide))))
  · rw [q2 58 (by decide)]; exact c1
  · rw [q1, Nat.add_assoc]
  · intro j h1 h2 h3
    rw [q2 j h2]; exact c3 j h1 h2 h3
  · intro s hs j hj hle
    have e42 : hI h (m + 42) = hI h0 (m + 42) := funext (f.2.2.2.2.1 (m + 42) (fun z => z.elim (fun z => by omega) (fun ⟨t, ht, z⟩ => by have := rows_lt t ht; omega)))
    rcases rows_apart r hr s hs hle with e | e
    · subst e
      rw [q3, if_pos (by omega), e42]
    · have hsr : s ≠ r := fun z => by subst z; omega
      rw [f'.2.2.2.2.1 (m + s) (by have := rows_lt s hs; omega)]
      exact c4 s hs j hj e
  · intro s hs h34 hle j
    have hsr : s ≠ r := fun z => by subst z; omega
    rw [f'.2.2.2.2.1 (m + s) (by have := rows_lt s hs; omega)]
    exact c5 s hs h34 (by omega) j
