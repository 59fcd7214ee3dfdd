theorem sp_hear {d : Nat} {h : AH} {Q : Option Value → AH → Prop} (hd : 12 ≤ d) (v t a rl nr nw l : Nat) (A : PC) (ns : List (Nat × Nat × Int32)) (cls : List (List (List (Nat × Nat) × List (Nat × Nat)))) (hl : l ≤ 60) (drl : v + 20 ≤ rl ∨ rl < v) (hdr : ∀ (i : Nat) (c : List (List (Nat × Nat) × List (Nat × Nat))), cls[i]? = some c → v + 20 ≤ hR h rl i ∨ hR h rl i + 3 ≤ v) (H : VC h v t a nr nw A ns) (HL : RlsAt h rl cls) (k : ∀ h', Fr' h h' (VB v) → WiIs h' v nw (ftB cls A nr nw ns) (fun j w => itF (Rr cls j) A nr nw (l + 1) (begM A) 5 w) (cls.length + 1) → Q none h') : Calls d nX10_hear [.ref v, .ref t, .ref rl, .int (nI cls.length), .int (nI l)] h (hN h) (hU h) Q := by
  obtain ⟨e, rfl⟩ : ∃ e, d = e + 1 := ⟨d - 1, by omega⟩
  have h0 := H.1.1
  refine wX10_hear (by omega) v t rl _ _ ?_
  simp only [rt_i, rt_b0, rt_b1, rt_v, rt_l, rt_o, rt_a, rV_none, rI_some, rL_some, rR_some, rT_some, rt_bI, hIf_sL, hIf_sR, hS_sI, hS_sL, hS_sR, hS_cpI, hR_sI, hR_sL, hR_cpI, hL_sI, hL_sR, hL_cpI, hI_sL, hI_sR, hN_sI, hN_sL, hN_sR, hN_cpI, hU_sI, hU_sL, hU_sR, hU_cpI, tn0, tn1, tn2, tn3, tn4, tn5, tn6, tn7, tn8, tn9, tn10, tn11, tn12, tn13, tn14, tn15, tn16, tn17, tn18, tn19, tn20, tn21, tn22, tn23, tn24, tn25, tn26, tn27, tn28, tn29, tn30, tn31, tn32, tn33, tn34, tn35, tn36, tn37, tn38, tn39, tn40, tn41, tn42, tn43, tn44, tn45, tn46, tn47, tn48, tn49, tn50, tn51, tn52, tn53, tn54, tn55, tn56, tn57, tn58, tn59, tn60, lH_eq, true_and, and_true, h0]
  have f2 : Fr' h (sI (sI h v 3 0) v 4 (-2)) (VB v) := (Fr'.sI (Or.inl rfl)).trans (Fr'.sI (Or.inl rfl))
  rw [show (-1 : Int32) = cI 0 from cI_0.symm]
  refine he_loop (by omega) v t a rl nr nw l A ns cls hl drl h hdr rfl rfl k (cls.length + 1) 0 _ (by omega) (H.fr f2) ⟨HL.1, HL.2.1, fun j c hj => ?_⟩ f2 ⟨?_, ?_, fun k hk => absurd hk (Nat.not_lt_zero k)⟩
  · have := HL.2.2 j c hj
    have d3 := hdr j c hj
    exact ⟨this.1, this.2.fr f2 (by unfold VB; omega) (by unfold VB; omega) (by unfold VB; omega)⟩
  · rw [hI_sI, if_pos rfl, if_neg (by decide), hI_sI, if_pos rfl, if_pos rfl]; rfl
  · rw [hI_sI, if_pos rfl, if_pos rfl]; rfl
/-- how many of the first n hold what place i holds -/
def alF (g : Nat → Int32) (i : Nat) : Nat → Nat
  | 0 => 0
  | n + 1 => if g n = g i then alF g i n + 1 else alF g i n
def maF (g : Nat → Int32) (m : Nat) : Nat → Nat
  | 0 => 0
  | n + 1 => if maF g m n < alF g n m then alF g n m else maF g m n
theorem alF_le (g : Nat → Int32) (i : Nat) : ∀ n, alF g i n ≤ n
  | 0 => Nat.le_refl _
  | n + 1 => by
    have := alF_le g i n
    simp only [alF]
    split <;> omega
theorem maF_le (g : Nat → Int32) (m : Nat) : ∀ n, maF g m n ≤ m
  | 0 => Nat.zero_le _
  | n + 1 => by
    have := maF_le g m n
    have := alF_le g n m
    simp only [maF]
    split <;> omega
theorem alF_cg {g g' : Nat → Int32} {m i : Nat} (h : ∀ j, j < m → g j = g' j) (hi : i < m) : ∀ n, n ≤ m → alF g i n = alF g' i n
  | 0, _ => rfl
  | n + 1, hn => by
    have ih := alF_cg h hi n (by omega)
    simp only [alF, ih, h n (by omega), h i hi]
theorem maF_cg {g g' : Nat → Int32} {m : Nat} (h : ∀ j, j < m → g j = g' j) : ∀ n, n ≤ m → maF g m n = maF g' m n
  | 0, _ => rfl
  | n + 1, hn => by
    have ih := maF_cg h n (by omega)
    simp only [maF, ih, alF_cg h (show n < m by omega) m (Nat.le_refl m)]
/-- the rows of a witness -/
def GoAt (h : AH) (v : Nat) : Prop := hS h v = (20, 5) ∧ hR h v 2 = v + 12 ∧ hS h (v + 12) = (8, 7) ∧ (∀ i, i < 7 → hR h (v + 12) i = v + 13 + i ∧ hS h (v + 13 + i) = (1, 6))
theorem ma_inner {d E1 E2 : Nat} {Q : Option Value → AH → Prop} {h : AH} (hd : 4 ≤ d) (v w m i : Nat) (g : Nat → Int32) (H : GoAt h v) (hm : m ≤ 7) (hw : w < 6) (hi : i < m) (h3 : hI h v 3 = nI m) (hg : ∀ k, k < m → hI h (v + 13 + k) w = g k) (v2 : Int32) (k : Reach d nX10_mostAlike (4, [.ref v, .int (nI w), .int (if v2 < nI (alF g i m) then nI (alF g i m) else v2), .int (nI i + 1), .float 0, .float 0], []) h E1 E2 Q) : ∀ n j : Nat, j + n = m → Reach d nX10_mostAlike (18, [.ref v, .int (nI w), .int v2, .int (nI i), .int (nI (alF g i j)), .int (nI j)], []) h E1 E2 Q
  | 0, j, hj => by
    have : j = m := by omega
    subst this
    obtain ⟨h0, h2, c3, c4⟩ := H
    refine wX10_mostAlike_18 hd v (nI w) v2 (nI i) _ (nI j) ?_
    simp only [rt_i, rt_b0, rt_b1, rt_v, rt_l, rt_o, rt_a, rV_none, rI_some, rL_some, rR_some, rT_some, rt_bI, hIf_sL, hIf_sR, hS_sI, hS_sL, hS_sR, hS_cpI, hR_sI, hR_sL, hR_cpI, hL_sI, hL_sR, hL_cpI, hI_sL, hI_sR, hN_sI, hN_sL, hN_sR, hN_cpI, hU_sI, hU_sL, hU_sR, hU_cpI, tn0, tn1, tn2, tn3, tn4, tn5, tn6, tn7, tn8, tn9, tn10, tn11, tn12, tn13, tn14, tn15, tn16, tn17, tn18, tn19, tn20, tn21, tn22, tn23, tn24, tn25, tn26, tn27, tn28, tn29, tn30, tn31, tn32, tn33, tn34, tn35, tn36, tn37, tn38, tn39, tn40, tn41, tn42, tn43, tn44, tn45, tn46, tn47, tn48, tn49, tn50, tn51, tn52, tn53, tn54, tn55, tn56, tn57, tn58, tn59, tn60, lH_eq, true_and, and_true, h0, h3, nI_le_iff (show j < 2 ^ 31 by omega) (show j < 2 ^ 31 by omega)]
    exact ⟨fun _ => k, fun z => absurd (Nat.le_refl _) z⟩
  | n + 1, j, hj => by
    have ih := ma_inner hd v w m i g H hm hw hi h3 hg v2 k n (j + 1) (by omega)
    obtain ⟨h0, h2, c3, c4⟩ := H
    refine wX10_mostAlike_18 hd v (nI w) v2 (nI i) _ (nI j) ?_
    simp only [rt_i, rt_b0, rt_b1, rt_v, rt_l, rt_o, rt_a, rV_none, rI_some, rL_some, rR_some, rT_some, rt_bI, hIf_sL, hIf_sR, hS_sI, hS_sL, hS_sR, hS_cpI, hR_sI, hR_sL, hR_cpI, hL_sI, hL_sR, hL_cpI, hI_sL, hI_sR, hN_sI, hN_sL, hN_sR, hN_cpI, hU_sI, hU_sL, hU_sR, hU_cpI, tn0, tn1, tn2, tn3, tn4, tn5, tn6, tn7, tn8, tn9, tn10, tn11, tn12, tn13, tn14, tn15, tn16, tn17, tn18, tn19, tn20, tn21, tn22, tn23, tn24, tn25, tn26, tn27, tn28, tn29, tn30, tn31, tn32, tn33, tn34, tn35, tn36, tn37, tn38, tn39, tn40, tn41, tn42, tn43, tn44, tn45, tn46, tn47, tn48, tn49, tn50, tn51, tn52, tn53, tn54, tn55, tn56, tn57, tn58, tn59, tn60, lH_eq, true_and, and_true, h0, h2, h3, c3, nI_le_iff (show m < 2 ^ 31 by omega) (show j < 2 ^ 31 by omega), vp_in_nI (show j < 7 by omega) (show 7 < 2 ^ 31 by omega), nI_clamp (show j < 2 ^ 31 by omega), vp_in_nI (show i < 7 by omega) (show 7 < 2 ^ 31 by omega), nI_clamp (show i < 2 ^ 31 by omega), vp_in_nI (show w < 6 by omega) (show 6 < 2 ^ 31 by omega), nI_clamp (show w < 2 ^ 31 by omega), (c4 j (by omega)).1, (c4 j (by omega)).2, (c4 i (by omega)).1, (c4 i (by omega)).2, hg j (by omega), hg i hi, nI_1]
    simp only [alF] at ih
    refine ⟨fun z => absurd z (by omega), fun _ => ?_⟩
    repeat refine ⟨by decide, ?_⟩
    refine ⟨fun z => ?_, fun z => ?_⟩
    · rwa [if_neg z] at ih
    · rwa [if_pos z] at ih
theorem ma_loop {d E1 E2 : Nat} {Q : Option Value → AH → Prop} {h : AH} (hd : 4 ≤ d) (v w m : Nat) (g : Nat → Int32) (H : GoAt h v) (hm : m ≤ 7) (hw : w < 6) (h3 : hI h v 3 = nI m) (hg : ∀ k, k < m → hI h (v + 13 + k) w = g k) (e1 : hN h = E1) (e2 : hU h = E2) (k : Q (some (.int (nI (maF g m m)))) h) : ∀ n i : Nat, i + n = m → Reach d nX10_mostAlike (4, [.ref v, .int (nI w), .int (nI (maF g m i)), .int (nI i), .float 0, .float 0], []) h E1 E2 Q
  | 0, i, hi => by
    have : i = m := by omega
    subst this
    refine wX10_mostAlike_4 hd v (nI w) _ (nI i) ?_
    simp only [rt_i, rt_b0, rt_b1, rt_v, rt_l, rt_o, rt_a, rV_none, rI_some, rL_some, rR_some, rT_some, rt_bI, hIf_sL, hIf_sR, hS_sI, hS_sL, hS_sR, hS_cpI, hR_sI, hR_sL, hR_cpI, hL_sI, hL_sR, hL_cpI, hI_sL, hI_sR, hN_sI, hN_sL, hN_sR, hN_cpI, hU_sI, hU_sL, hU_sR, hU_cpI, tn0, tn1, tn2, tn3, tn4, tn5, tn6, tn7, tn8, tn9, tn10, tn11, tn12, tn13, tn14, tn15, tn16, tn17, tn18, tn19, tn20, tn21, tn22, tn23, tn24, tn25, tn26, tn27, tn28, tn29, tn30, tn31, tn32, tn33, tn34, tn35, tn36, tn37, tn38, tn39, tn40, tn41, tn42, tn43, tn44, tn45, tn46, tn47, tn48, tn49, tn50, tn51, tn52, tn53, tn54, tn55, tn56, tn57, tn58, tn59, tn60, lH_eq, true_and, and_true, H.1, h3, nI_le_iff (show i < 2 ^ 31 by omega) (show i < 2 ^ 31 by omega)]
    exact ⟨fun _ => ⟨e1, e2, k⟩, fun z => absurd (Nat.le_refl _) z⟩
  | n + 1, i, hi => by
    have ih := ma_loop hd v w m g H hm hw h3 hg e1 e2 k n (i + 1) (by omega)
    have l1 := maF_le g m i
    have l2 := alF_le g i m
    refine wX10_mostAlike_4 hd v (nI w) _ (nI i) ?_
    simp only [rt_i, rt_b0, rt_b1, rt_v, rt_l, rt_o, rt_a, rV_none, rI_some, rL_some, rR_some, rT_some, rt_bI, hIf_sL, hIf_sR, hS_sI, hS_sL, hS_sR, hS_cpI, hR_sI, hR_sL, hR_cpI, hL_sI, hL_sR, hL_cpI, hI_sL, hI_sR, hN_sI, hN_sL, hN_sR, hN_cpI, hU_sI, hU_sL, hU_sR, hU_cpI, tn0, tn1, tn2, tn3, tn4, tn5, tn6, tn7, tn8, tn9, tn10, tn11, tn12, tn13, tn14, tn15, tn16, tn17, tn18, tn19, tn20, tn21, tn22, tn23, tn24, tn25, tn26, tn27, tn28, tn29, tn30, tn31, tn32, tn33, tn34, tn35, tn36, tn37, tn38, tn39, tn40, tn41, tn42, tn43, tn44, tn45, tn46, tn47, tn48, tn49, tn50, tn51, tn52, tn53, tn54, tn55, tn56, tn57, tn58, tn59, tn60, lH_eq, true_and, and_true, H.1, h3, nI_le_iff (show m < 2 ^ 31 by omega) (show i < 2 ^ 31 by omega)]
    refine ⟨fun z => absurd z (by omega), fun _ => ma_inner hd v w m i g H hm hw (by omega) h3 hg _ ?_ m 0 (by omega)⟩
    simp only [nI_lt_iff (show maF g m i < 2 ^ 31 by omega) (show alF g i m < 2 ^ 31 by omega), nI_1]
    simp only [maF] at ih
    by_cases c : maF g m i < alF g i m
    · rw [if_pos c] at ih ⊢; exact ih
    · rw [if_neg c] at ih ⊢; exact ih
theorem sp_mostAlike {d : Nat} {h : AH} {Q : Option Value → AH → Prop} (hd : 5 ≤ d) (v w m : Nat) (g : Nat → Int32) (H : GoAt h v) (hm : m ≤ 7) (hw : w < 6) (h3 : hI h v 3 = nI m) (hg : ∀ k, k < m → hI h (v + 13 + k) w = g k) (k : Q (some (.int (nI (maF g m m)))) h) : Calls d nX10_mostAlike [.ref v, .int (nI w)] h (hN h) (hU h) Q := by
  obtain ⟨e, rfl⟩ : ∃ e, d = e + 1 := ⟨d - 1, by omega⟩
  exact wX10_mostAlike (by omega) v (nI w) (ma_loop (by omega) v w m g H hm hw h3 hg rfl rfl k m 0 (by omega))
/-- the ware at which fewest are alike -/
def bwF (al : Nat → Nat) : Nat → Nat
  | 0 => 0
  | n + 1 => if n = 0 then 0 else if al n < al (bwF al n) then n else bwF al n
theorem bwF_lt (al : Nat → Nat) : ∀ n, bwF al n ≤ n
  | 0 => Nat.le_refl _
  | n + 1 => by
    have := bwF_lt al n
    simp only [bwF]
    split
    · omega
    · split <;> omega
def lkV (al : Nat → Nat) (m nw : Nat) (wh : Int32) : Int32 := if m = 0 ∨ nw = 0 then -2 else if wh = 0 then nI (bwF al nw) else nI (al (bwF al nw))
theorem bw_loop {d E1 E2 : Nat} {Q : Option Value → AH → Prop} {h : AH} (hd : 5 ≤ d) (v m nw : Nat) (G : Nat → Nat → Int32) (wh : Int32) (H : GoAt h v) (hm : m ≤ 7) (hm0 : 0 < m) (hw6 : nw ≤ 6) (h3 : hI h v 3 = nI m) (hg : ∀ k, k < m → ∀ w, w < nw → hI h (v + 13 + k) w = G k w) (e1 : hN h = E1) (e2 : hU h = E2) (k : Q (some (.int (lkV (fun w => maF (fun k => G k w) m m) m nw wh))) h) : ∀ n i : Nat, i + n = nw → Reach d nX10_bestWare (10, [.ref v, .int (nI nw), .int wh, .int (if i = 0 then -2 else nI (bwF (fun w => maF (fun k => G k w) m m) i)), .int (if i = 0 then -2 else nI (maF (fun k => G k (bwF (fun w => maF (fun k => G k w) m m) i)) m m)), .int (nI i), .float 0], []) h E1 E2 Q
  | 0, i, hi => by
    have : i = nw := by omega
    subst this
    refine wX10_bestWare_10 (by omega) v (nI i) wh _ _ (nI i) ?_
    have c0 : (nI m ≤ 0) = (m ≤ 0) := nI_le_iff (b := 0) (by omega) (by decide)
    simp only [rt_i, rt_b0, rt_b1, rt_v, rt_l, rt_o, rt_a, rV_none, rI_some, rL_some, rR_some, rT_some, rt_bI, hIf_sL, hIf_sR, hS_sI, hS_sL, hS_sR, hS_cpI, hR_sI, hR_sL, hR_cpI, hL_sI, hL_sR, hL_cpI, hI_sL, hI_sR, hN_sI, hN_sL, hN_sR, hN_cpI, hU_sI, hU_sL, hU_sR, hU_cpI, tn0, tn1, tn2, tn3, tn4, tn5, tn6, tn7, tn8, tn9, tn10, tn11, tn12, tn13, tn14, tn15, tn16, tn17, tn18, tn19, tn20, tn21, tn22, tn23, tn24, tn25, tn26, tn27, tn28, tn29, tn30, tn31, tn32, tn33, tn34, tn35, tn36, tn37, tn38, tn39, tn40, tn41, tn42, tn43, tn44, tn45, tn46, tn47, tn48, tn49, tn50, tn51, tn52, tn53, tn54, tn55, tn56, tn57, tn58, tn59, tn60, lH_eq, true_and, and_true, H.1, h3, c0, nI_le_iff (show i < 2 ^ 31 by omega) (show i < 2 ^ 31 by omega)]
    unfold lkV at k
    have kk : (wh = 0 → Q (some (.int (if i = 0 then -2 else nI (bwF (fun w => maF (fun k => G k w) m m) i)))) h) ∧ (¬ wh = 0 → Q (some (.int (if i = 0 then -2 else nI (maF (fun k => G k (bwF (fun w => maF (fun k => G k w) m m) i)) m m)))) h) := by
      by_cases c : i = 0
      · rw [if_pos (Or.inr c)] at k
        rw [if_pos c, if_pos c]
        exact ⟨fun _ => k, fun _ => k⟩
      · rw [if_neg (by omega)] at k
        rw [if_neg c, if_neg c]
        refine ⟨fun z => ?_, fun z => ?_⟩
        · rwa [if_pos z] at k
        · rwa [if_neg z] at k
    exact ⟨fun z => absurd z (by omega), fun _ => ⟨fun _ => ⟨fun z => ⟨e1, e2, kk.1 z⟩, fun z => ⟨e1, e2, kk.2 z⟩⟩, fun z => absurd (Nat.le_refl _) z⟩⟩
  | n + 1, i, hi => by
    have ih := bw_loop hd v m nw G wh H hm hm0 hw6 h3 hg e1 e2 k n (i + 1) (by omega)
    rw [if_neg (by omega), if_neg (by omega)] at ih
    have hb := bwF_lt (fun w => maF (fun k => G k w) m m) i
    refine wX10_bestWare_10 (by omega) v (nI nw) wh _ _ (nI i) ?_
    have c0 : (nI m ≤ 0) = (m ≤ 0) := nI_le_iff (b := 0) (by omega) (by decide)
    simp only [rt_i, rt_b0, rt_b1, rt_v, rt_l, rt_o, rt_a, rV_none, rI_some, rL_some, rR_some, rT_some, rt_bI, hIf_sL, hIf_sR, hS_sI, hS_sL, hS_sR, hS_cpI, hR_sI, hR_sL, hR_cpI, hL_sI, hL_sR, hL_cpI, hI_sL, hI_sR, hN_sI, hN_sL, hN_sR, hN_cpI, hU_sI, hU_sL, hU_sR, hU_cpI, tn0, tn1, tn2, tn3, tn4, tn5, tn6, tn7, tn8, tn9, tn10, tn11, tn12, tn13, tn14, tn15, tn16, tn17, tn18, tn19, tn20, tn21, tn22, tn23, tn24, tn25, tn26, tn27, tn28, tn29, tn30, tn31, tn32, tn33, tn34, tn35, tn36, tn37, tn38, tn39, tn40, tn41, tn42, tn43, tn44, tn45, tn46, tn47, tn48, tn49, tn50, tn51, tn52, tn53, tn54, tn55, tn56, tn57, tn58, tn59, tn60, lH_eq, true_and, and_true, H.1, h3, c0, nI_le_iff (show nw < 2 ^ 31 by omega) (show i < 2 ^ 31 by omega)]
    refine ⟨fun z => absurd z (by omega), fun _ => ⟨fun z => absurd z (by omega), fun _ => ?_⟩⟩
    refine sp_mostAlike (by omega) v i m (fun k => G k i) H hm (by omega) h3 (fun k hk => hg k hk i (by omega)) ?_
    simp only [rI_some, nI_1]
    have l1 := maF_le (fun k => G k i) m m
    by_cases c : i = 0
    · subst c
      rw [if_pos rfl, if_pos rfl]
      refine ⟨fun _ => ih, fun z => absurd (by decide) z⟩
    · have l2 := maF_le (fun k => G k (bwF (fun w => maF (fun k => G k w) m m) i)) m m
      rw [if_neg c, if_neg c]
      have es : bwF (fun w => maF (fun k => G k w) m m) (i + 1) = if maF (fun k => G k i) m m < maF (fun k => G k (bwF (fun w => maF (fun k => G k w) m m) i)) m m then i else bwF (fun w => maF (fun k => G k w) m m) i := by simp only [bwF, if_neg c]
      rw [es] at ih
      simp only [nI_le_iff (show maF (fun k => G k (bwF (fun w => maF (fun k => G k w) m m) i)) m m < 2 ^ 31 by omega) (show maF (fun k => G k i) m m < 2 ^ 31 by omega)]
      refine ⟨fun z => absurd z (nI_pos (by omega)), fun _ => ⟨fun z => ?_, fun z => ?_⟩⟩
      · rw [if_neg (by omega)] at ih
        exact ih
      · rw [if_pos (by omega)] at ih
        exact ih
theorem sp_bestWare {d : Nat} {h : AH} {Q : Option Value → AH → Prop} (hd : 6 ≤ d) (v m nw : Nat) (G : Nat → Nat → Int32) (wh : Int32) (H : GoAt h v) (hm : m ≤ 7) (hw6 : nw ≤ 6) (h3 : hI h v 3 = nI m) (hg : ∀ k, k < m → ∀ w, w < nw → hI h (v + 13 + k) w = G k w) (k : Q (some (.int (lkV (fun w => maF (fun k => G k w) m m) m nw wh))) h) : Calls d nX10_bestWare [.ref v, .int (nI nw), .int wh] h (hN h) (hU h) Q := by
  obtain ⟨e, rfl⟩ : ∃ e, d = e + 1 := ⟨d - 1, by omega⟩
  refine wX10_bestWare (by omega) v (nI nw) wh ?_
  by_cases c : m = 0
  · subst c
    refine wX10_bestWare_10 (by omega) v (nI nw) wh _ _ 0 ?_
    simp only [rt_i, rt_b0, rt_b1, rt_v, rt_l, rt_o, rt_a, rV_none, rI_some, rL_some, rR_some, rT_some, rt_bI, hIf_sL, hIf_sR, hS_sI, hS_sL, hS_sR, hS_cpI, hR_sI, hR_sL, hR_cpI, hL_sI, hL_sR, hL_cpI, hI_sL, hI_sR, hN_sI, hN_sL, hN_sR, hN_cpI, hU_sI, hU_sL, hU_sR, hU_cpI, tn0, tn1, tn2, tn3, tn4, tn5, tn6, tn7, tn8, tn9, tn10, tn11, tn12, tn13, tn14, tn15, tn16, tn17, tn18, tn19, tn20, tn21, tn22, tn23, tn24, tn25, tn26, tn27, tn28, tn29, tn30, tn31, tn32, tn33, tn34, tn35, tn36, tn37, tn38, tn39, tn40, tn41, tn42, tn43, tn44, tn45, tn46, tn47, tn48, tn49, tn50, tn51, tn52, tn53, tn54, tn55, tn56, tn57, tn58, tn59, tn60, lH_eq, true_and, and_true, H.1, h3]
    unfold lkV at k
    rw [if_pos (Or.inl rfl)] at k
    exact ⟨fun _ => ⟨fun _ => k, fun _ => k⟩, fun z => absurd (by decide) z⟩
  · exact bw_loop (by omega) v m nw G wh H hm (by omega) hw6 h3 hg rfl rfl k nw 0 (by omega)
