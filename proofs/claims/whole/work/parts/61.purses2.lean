def crF (f : Nat → Int32) (nr : Nat) : Nat → Nat
  | 0 => 0
  | n + 1 => if 0 < n ∧ tgF f n nr = 0 then crF f nr n + 1 else crF f nr n
def grF (f : Nat → Int32) (nr : Nat) : Nat → Nat
  | 0 => 0
  | n + 1 => if (0 < n ∧ tgF f n nr = 0) ∧ popN (grF f nr n) < popN n then n else grF f nr n
theorem grF_lt (f : Nat → Int32) (nr : Nat) : ∀ n, grF f nr n ≤ n
  | 0 => Nat.le_refl _
  | n + 1 => by
    have := grF_lt f nr n
    simp only [grF]
    split <;> omega
theorem popN_le (s : Nat) : popN s ≤ 5 := by unfold popN; omega
theorem cr_loop {d E1 E2 : Nat} {Q : Option Value → AH → Prop} {h : AH} (hd : 5 ≤ d) (p nr : Nat) (f : Nat → Int32) (hp : hS h p = (1, 5)) (hr : nr ≤ 5) (hf : ∀ j, j < nr → hI h p j = f j) (e1 : hN h = E1) (e2 : hU h = E2) (k : Q (some (.int (nI (crF f nr (2 ^ nr))))) h) : ∀ n s : Nat, s + n = 2 ^ nr → 1 ≤ s → Reach d nX5_countRings (5, [.float 0, .ref p, .int (nI nr), .int (nI (crF f nr s)), .int (nI s)], []) h E1 E2 Q
  | 0, s, hs, hs1 => by
    have : s = 2 ^ nr := by omega
    subst this
    have hl : 2 ^ nr ≤ 2 ^ 5 := Nat.pow_le_pow_right (by decide) hr
    refine wX5_countRings_5 (by omega) p (nI nr) _ _ ?_
    simp only [rt_i, rt_b0, rt_b1, rt_v, rt_l, rt_o, rt_a, rV_none, rI_some, rL_some, rR_some, rT_some, rt_bI, hIf_sL, hIf_sR, hS_sI, hS_sL, hS_sR, hS_cpI, hR_sI, hR_sL, hR_cpI, hL_sI, hL_sR, hL_cpI, hI_sL, hI_sR, hN_sI, hN_sL, hN_sR, hN_cpI, hU_sI, hU_sL, hU_sR, hU_cpI, tn0, tn1, tn2, tn3, tn4, tn5, tn6, tn7, tn8, tn9, tn10, tn11, tn12, tn13, tn14, tn15, tn16, tn17, tn18, tn19, tn20, tn21, tn22, tn23, tn24, tn25, tn26, tn27, tn28, tn29, tn30, tn31, tn32, tn33, tn34, tn35, tn36, tn37, tn38, tn39, tn40, tn41, tn42, tn43, tn44, tn45, tn46, tn47, tn48, tn49, tn50, tn51, tn52, tn53, tn54, tn55, tn56, tn57, tn58, tn59, tn60, lH_eq, true_and, and_true, sh5 nr hr, nI_le_iff (show 2 ^ nr < 2 ^ 31 by omega) (show 2 ^ nr < 2 ^ 31 by omega)]
    exact ⟨fun _ => ⟨e1, e2, k⟩, fun z => absurd (Nat.le_refl _) z⟩
  | n + 1, s, hs, hs1 => by
    have ih := cr_loop hd p nr f hp hr hf e1 e2 k n (s + 1) (by omega) (by omega)
    have hl : 2 ^ nr ≤ 2 ^ 5 := Nat.pow_le_pow_right (by decide) hr
    refine wX5_countRings_5 (by omega) p (nI nr) _ _ ?_
    simp only [rt_i, rt_b0, rt_b1, rt_v, rt_l, rt_o, rt_a, rV_none, rI_some, rL_some, rR_some, rT_some, rt_bI, hIf_sL, hIf_sR, hS_sI, hS_sL, hS_sR, hS_cpI, hR_sI, hR_sL, hR_cpI, hL_sI, hL_sR, hL_cpI, hI_sL, hI_sR, hN_sI, hN_sL, hN_sR, hN_cpI, hU_sI, hU_sL, hU_sR, hU_cpI, tn0, tn1, tn2, tn3, tn4, tn5, tn6, tn7, tn8, tn9, tn10, tn11, tn12, tn13, tn14, tn15, tn16, tn17, tn18, tn19, tn20, tn21, tn22, tn23, tn24, tn25, tn26, tn27, tn28, tn29, tn30, tn31, tn32, tn33, tn34, tn35, tn36, tn37, tn38, tn39, tn40, tn41, tn42, tn43, tn44, tn45, tn46, tn47, tn48, tn49, tn50, tn51, tn52, tn53, tn54, tn55, tn56, tn57, tn58, tn59, tn60, lH_eq, true_and, and_true, sh5 nr hr, nI_le_iff (show 2 ^ nr < 2 ^ 31 by omega) (show s < 2 ^ 31 by omega)]
    refine ⟨fun z => absurd z (by omega), fun _ => ?_⟩
    refine sp_together (by omega) p nr s f hp hr (by omega) hf ?_
    simp only [rI_some, nI_1]
    simp only [crF] at ih
    refine ⟨fun z => ?_, fun z => ?_⟩
    · rwa [if_neg (fun y => z y.2)] at ih
    · rwa [if_pos ⟨by omega, z⟩] at ih
theorem sp_countRings {d : Nat} {h : AH} {Q : Option Value → AH → Prop} (hd : 6 ≤ d) (g p nr : Nat) (f : Nat → Int32) (hp : hS h p = (1, 5)) (hr : nr ≤ 5) (hf : ∀ j, j < nr → hI h p j = f j) (k : Q (some (.int (nI (crF f nr (2 ^ nr))))) h) : Calls d nX5_countRings [.ref g, .ref p, .int (nI nr)] h (hN h) (hU h) Q := by
  obtain ⟨e, rfl⟩ : ∃ e, d = e + 1 := ⟨d - 1, by omega⟩
  have hl1 : 1 ≤ 2 ^ nr := Nat.one_le_two_pow
  exact wX5_countRings (by omega) g p (nI nr) (cr_loop (by omega) p nr f hp hr hf rfl rfl k (2 ^ nr - 1) 1 (by omega) (Nat.le_refl 1))
theorem gr_loop {d E1 E2 : Nat} {Q : Option Value → AH → Prop} {h : AH} (hd : 5 ≤ d) (p nr : Nat) (f : Nat → Int32) (hp : hS h p = (1, 5)) (hr : nr ≤ 5) (hf : ∀ j, j < nr → hI h p j = f j) (e1 : hN h = E1) (e2 : hU h = E2) (k : Q (some (.int (nI (grF f nr (2 ^ nr))))) h) : ∀ n s : Nat, s + n = 2 ^ nr → 1 ≤ s → Reach d nX5_greatestRing (5, [.float 0, .ref p, .int (nI nr), .int (nI (grF f nr s)), .int (nI s)], []) h E1 E2 Q
  | 0, s, hs, hs1 => by
    have : s = 2 ^ nr := by omega
    subst this
    have hl : 2 ^ nr ≤ 2 ^ 5 := Nat.pow_le_pow_right (by decide) hr
    refine wX5_greatestRing_5 (by omega) p (nI nr) _ _ ?_
    simp only [rt_i, rt_b0, rt_b1, rt_v, rt_l, rt_o, rt_a, rV_none, rI_some, rL_some, rR_some, rT_some, rt_bI, hIf_sL, hIf_sR, hS_sI, hS_sL, hS_sR, hS_cpI, hR_sI, hR_sL, hR_cpI, hL_sI, hL_sR, hL_cpI, hI_sL, hI_sR, hN_sI, hN_sL, hN_sR, hN_cpI, hU_sI, hU_sL, hU_sR, hU_cpI, tn0, tn1, tn2, tn3, tn4, tn5, tn6, tn7, tn8, tn9, tn10, tn11, tn12, tn13, tn14, tn15, tn16, tn17, tn18, tn19, tn20, tn21, tn22, tn23, tn24, tn25, tn26, tn27, tn28, tn29, tn30, tn31, tn32, tn33, tn34, tn35, tn36, tn37, tn38, tn39, tn40, tn41, tn42, tn43, tn44, tn45, tn46, tn47, tn48, tn49, tn50, tn51, tn52, tn53, tn54, tn55, tn56, tn57, tn58, tn59, tn60, lH_eq, true_and, and_true, sh5 nr hr, nI_le_iff (show 2 ^ nr < 2 ^ 31 by omega) (show 2 ^ nr < 2 ^ 31 by omega)]
    exact ⟨fun _ => ⟨e1, e2, k⟩, fun z => absurd (Nat.le_refl _) z⟩
  | n + 1, s, hs, hs1 => by
    have ih := gr_loop hd p nr f hp hr hf e1 e2 k n (s + 1) (by omega) (by omega)
    have hl : 2 ^ nr ≤ 2 ^ 5 := Nat.pow_le_pow_right (by decide) hr
    have hg := grF_lt f nr s
    have p1 := popN_le s
    have p2 := popN_le (grF f nr s)
    refine wX5_greatestRing_5 (by omega) p (nI nr) _ _ ?_
    simp only [rt_i, rt_b0, rt_b1, rt_v, rt_l, rt_o, rt_a, rV_none, rI_some, rL_some, rR_some, rT_some, rt_bI, hIf_sL, hIf_sR, hS_sI, hS_sL, hS_sR, hS_cpI, hR_sI, hR_sL, hR_cpI, hL_sI, hL_sR, hL_cpI, hI_sL, hI_sR, hN_sI, hN_sL, hN_sR, hN_cpI, hU_sI, hU_sL, hU_sR, hU_cpI, tn0, tn1, tn2, tn3, tn4, tn5, tn6, tn7, tn8, tn9, tn10, tn11, tn12, tn13, tn14, tn15, tn16, tn17, tn18, tn19, tn20, tn21, tn22, tn23, tn24, tn25, tn26, tn27, tn28, tn29, tn30, tn31, tn32, tn33, tn34, tn35, tn36, tn37, tn38, tn39, tn40, tn41, tn42, tn43, tn44, tn45, tn46, tn47, tn48, tn49, tn50, tn51, tn52, tn53, tn54, tn55, tn56, tn57, tn58, tn59, tn60, lH_eq, true_and, and_true, sh5 nr hr, nI_le_iff (show 2 ^ nr < 2 ^ 31 by omega) (show s < 2 ^ 31 by omega)]
    refine ⟨fun z => absurd z (by omega), fun _ => ?_⟩
    refine sp_together (by omega) p nr s f hp hr (by omega) hf ?_
    simp only [rI_some, nI_1]
    simp only [grF] at ih
    refine ⟨fun z => ?_, fun z => ?_⟩
    · rwa [if_neg (fun y => z y.1.2)] at ih
    · refine sp_bitCount (by omega) s (by omega) ?_
      rw [rI_some]
      refine sp_bitCount (by omega) (grF f nr s) (by omega) ?_
      simp only [rI_some, nI_le_iff (show popN s < 2 ^ 31 by omega) (show popN (grF f nr s) < 2 ^ 31 by omega)]
      refine ⟨fun y => ?_, fun y => ?_⟩
      · rwa [if_neg (fun x => absurd x.2 (by omega))] at ih
      · rwa [if_pos ⟨⟨by omega, z⟩, by omega⟩] at ih
theorem sp_greatestRing {d : Nat} {h : AH} {Q : Option Value → AH → Prop} (hd : 6 ≤ d) (g p nr : Nat) (f : Nat → Int32) (hp : hS h p = (1, 5)) (hr : nr ≤ 5) (hf : ∀ j, j < nr → hI h p j = f j) (k : Q (some (.int (nI (grF f nr (2 ^ nr))))) h) : Calls d nX5_greatestRing [.ref g, .ref p, .int (nI nr)] h (hN h) (hU h) Q := by
  obtain ⟨e, rfl⟩ : ∃ e, d = e + 1 := ⟨d - 1, by omega⟩
  have hl1 : 1 ≤ 2 ^ nr := Nat.one_le_two_pow
  exact wX5_greatestRing (by omega) g p (nI nr) (gr_loop (by omega) p nr f hp hr hf rfl rfl k (2 ^ nr - 1) 1 (by omega) (Nat.le_refl 1))
/-- pence by wealth: what is left, how many are sooner -/
def shF (f : Nat → Int32) (mu all : Int32) (r : Nat) : Nat → Int32 × Nat
  | 0 => (mu, 0)
  | n + 1 => ((shF f mu all r n).1 - mu * f n / all, if irm (mu * f r) all < irm (mu * f n) all ∨ irm (mu * f n) all = irm (mu * f r) all ∧ n < r then (shF f mu all r n).2 + 1 else (shF f mu all r n).2)
theorem shF_le (f : Nat → Int32) (mu all : Int32) (r : Nat) : ∀ n, (shF f mu all r n).2 ≤ n
  | 0 => Nat.le_refl _
  | n + 1 => by
    have := shF_le f mu all r n
    simp only [shF]
    split <;> omega
theorem tgF_full (f : Nat → Int32) (nr : Nat) : ∀ n, n ≤ nr → tgF f (2 ^ nr - 1) n = suF f n
  | 0, _ => rfl
  | n + 1, h => by
    have ih := tgF_full f nr n (by omega)
    simp only [tgF, suF, ih]
    rw [if_pos]
    rw [Nat.testBit_two_pow_sub_one]
    simp; omega
def shV (f : Nat → Int32) (mu : Int32) (r nr : Nat) : Int32 := if 0 < suF f nr then mu * f r / suF f nr + (if nI (shF f mu (suF f nr) r nr).2 < (shF f mu (suF f nr) r nr).1 then 1 else 0) else 0
theorem sh_loop {d E1 E2 : Nat} {Q : Option Value → AH → Prop} {h : AH} (hd : 4 ≤ d) (p nr r : Nat) (f : Nat → Int32) (mu all : Int32) (hp : hS h p = (1, 5)) (hr5 : nr ≤ 5) (hr : r < nr) (ha : all ≠ 0) (hf : ∀ j, j < nr → hI h p j = f j) (e1 : hN h = E1) (e2 : hU h = E2) (k : Q (some (.int (mu * f r / all + (if nI (shF f mu all r nr).2 < (shF f mu all r nr).1 then 1 else 0)))) h) : ∀ n i : Nat, i + n = nr → Reach d nX5_share (40, [.float 0, .int mu, .int (nI r), .ref p, .int (nI nr), .int all, .int (shF f mu all r i).1, .int (nI (shF f mu all r i).2), .int (irm (mu * f r) all), .int (nI i), .float 0], []) h E1 E2 Q
  | 0, i, hi => by
    have : i = nr := by omega
    subst this
    refine wX5_share_40 hd mu (nI r) p (nI i) all _ _ _ (nI i) ?_
    simp only [rt_i, rt_b0, rt_b1, rt_v, rt_l, rt_o, rt_a, rV_none, rI_some, rL_some, rR_some, rT_some, rt_bI, hIf_sL, hIf_sR, hS_sI, hS_sL, hS_sR, hS_cpI, hR_sI, hR_sL, hR_cpI, hL_sI, hL_sR, hL_cpI, hI_sL, hI_sR, hN_sI, hN_sL, hN_sR, hN_cpI, hU_sI, hU_sL, hU_sR, hU_cpI, tn0, tn1, tn2, tn3, tn4, tn5, tn6, tn7, tn8, tn9, tn10, tn11, tn12, tn13, tn14, tn15, tn16, tn17, tn18, tn19, tn20, tn21, tn22, tn23, tn24, tn25, tn26, tn27, tn28, tn29, tn30, tn31, tn32, tn33, tn34, tn35, tn36, tn37, tn38, tn39, tn40, tn41, tn42, tn43, tn44, tn45, tn46, tn47, tn48, tn49, tn50, tn51, tn52, tn53, tn54, tn55, tn56, tn57, tn58, tn59, tn60, lH_eq, true_and, and_true, nI_le_iff (show i < 2 ^ 31 by omega) (show i < 2 ^ 31 by omega), hp, vp_in_nI (show r < 5 by omega) (show 5 < 2 ^ 31 by omega), nI_clamp (show r < 2 ^ 31 by omega), hf r hr]
    refine ⟨fun _ => ⟨ha, fun z => ?_, fun z => ?_⟩, fun z => absurd (Nat.le_refl i) z⟩
    · rw [if_neg (Int32.not_lt.mpr z)] at k; exact ⟨e1, e2, k⟩
    · rw [if_pos (i32_lt_of z)] at k; exact ⟨e1, e2, k⟩
  | n + 1, i, hi => by
    have ih := sh_loop hd p nr r f mu all hp hr5 hr ha hf e1 e2 k n (i + 1) (by omega)
    refine wX5_share_40 hd mu (nI r) p (nI nr) all _ _ _ (nI i) ?_
    simp only [rt_i, rt_b0, rt_b1, rt_v, rt_l, rt_o, rt_a, rV_none, rI_some, rL_some, rR_some, rT_some, rt_bI, hIf_sL, hIf_sR, hS_sI, hS_sL, hS_sR, hS_cpI, hR_sI, hR_sL, hR_cpI, hL_sI, hL_sR, hL_cpI, hI_sL, hI_sR, hN_sI, hN_sL, hN_sR, hN_cpI, hU_sI, hU_sL, hU_sR, hU_cpI, tn0, tn1, tn2, tn3, tn4, tn5, tn6, tn7, tn8, tn9, tn10, tn11, tn12, tn13, tn14, tn15, tn16, tn17, tn18, tn19, tn20, tn21, tn22, tn23, tn24, tn25, tn26, tn27, tn28, tn29, tn30, tn31, tn32, tn33, tn34, tn35, tn36, tn37, tn38, tn39, tn40, tn41, tn42, tn43, tn44, tn45, tn46, tn47, tn48, tn49, tn50, tn51, tn52, tn53, tn54, tn55, tn56, tn57, tn58, tn59, tn60, lH_eq, true_and, and_true, nI_le_iff (show nr < 2 ^ 31 by omega) (show i < 2 ^ 31 by omega), nI_le_iff (show r < 2 ^ 31 by omega) (show i < 2 ^ 31 by omega), hp, vp_in_nI (show i < 5 by omega) (show 5 < 2 ^ 31 by omega), nI_clamp (show i < 2 ^ 31 by omega), hf i (by omega), irm_eq, nI_1]
    simp only [shF] at ih
    refine ⟨fun z => absurd z (by omega), fun _ => ⟨ha, ha, fun z => ?_, fun z => ⟨fun y => ?_, fun y => ⟨fun x => ?_, fun x => ?_⟩⟩⟩⟩
    · rwa [if_pos (Or.inl z)] at ih
    · rwa [if_neg (fun x => x.elim z (fun x => y x.1))] at ih
    · rwa [if_neg (fun w => w.elim z (fun w => absurd w.2 (by omega)))] at ih
    · rwa [if_pos (Or.inr ⟨y, by omega⟩)] at ih
theorem sp_share {d : Nat} {h : AH} {Q : Option Value → AH → Prop} (hd : 6 ≤ d) (g p nr r : Nat) (f : Nat → Int32) (mu : Int32) (hp : hS h p = (1, 5)) (hr5 : nr ≤ 5) (hr : r < nr) (hf : ∀ j, j < nr → hI h p j = f j) (k : Q (some (.int (shV f mu r nr))) h) : Calls d nX5_share [.ref g, .int mu, .int (nI r), .ref p, .int (nI nr)] h (hN h) (hU h) Q := by
  obtain ⟨e, rfl⟩ : ∃ e, d = e + 1 := ⟨d - 1, by omega⟩
  have hl : 2 ^ nr ≤ 2 ^ 5 := Nat.pow_le_pow_right (by decide) hr5
  have hl1 : 1 ≤ 2 ^ nr := Nat.one_le_two_pow
  refine wX5_share (by omega) g mu (nI r) p (nI nr) ?_
  have e3 : nI (2 ^ nr) - 1 = nI (2 ^ nr - 1) := pk_sub (b := 1) hl1
  rw [sh5 nr hr5, e3]
  refine sp_together (by omega) p nr (2 ^ nr - 1) f hp hr5 (by omega) hf ?_
  rw [tgF_full f nr nr (Nat.le_refl nr)]
  simp only [rI_some, rt_i, rt_b0, rt_b1, rt_v, rt_l, rt_o, rt_a, rV_none, rI_some, rL_some, rR_some, rT_some, rt_bI, hIf_sL, hIf_sR, hS_sI, hS_sL, hS_sR, hS_cpI, hR_sI, hR_sL, hR_cpI, hL_sI, hL_sR, hL_cpI, hI_sL, hI_sR, hN_sI, hN_sL, hN_sR, hN_cpI, hU_sI, hU_sL, hU_sR, hU_cpI, tn0, tn1, tn2, tn3, tn4, tn5, tn6, tn7, tn8, tn9, tn10, tn11, tn12, tn13, tn14, tn15, tn16, tn17, tn18, tn19, tn20, tn21, tn22, tn23, tn24, tn25, tn26, tn27, tn28, tn29, tn30, tn31, tn32, tn33, tn34, tn35, tn36, tn37, tn38, tn39, tn40, tn41, tn42, tn43, tn44, tn45, tn46, tn47, tn48, tn49, tn50, tn51, tn52, tn53, tn54, tn55, tn56, tn57, tn58, tn59, tn60, lH_eq, true_and, and_true]
  unfold shV at k
  refine ⟨fun z => ?_, fun z => ?_⟩
  · rw [if_pos z] at k
    have ha : suF f nr ≠ 0 := fun y => by rw [y] at z; exact absurd z (by decide)
    refine wX5_share_21 (by omega) mu (nI r) p (nI nr) (suF f nr) ?_
    simp only [rt_i, rt_b0, rt_b1, rt_v, rt_l, rt_o, rt_a, rV_none, rI_some, rL_some, rR_some, rT_some, rt_bI, hIf_sL, hIf_sR, hS_sI, hS_sL, hS_sR, hS_cpI, hR_sI, hR_sL, hR_cpI, hL_sI, hL_sR, hL_cpI, hI_sL, hI_sR, hN_sI, hN_sL, hN_sR, hN_cpI, hU_sI, hU_sL, hU_sR, hU_cpI, tn0, tn1, tn2, tn3, tn4, tn5, tn6, tn7, tn8, tn9, tn10, tn11, tn12, tn13, tn14, tn15, tn16, tn17, tn18, tn19, tn20, tn21, tn22, tn23, tn24, tn25, tn26, tn27, tn28, tn29, tn30, tn31, tn32, tn33, tn34, tn35, tn36, tn37, tn38, tn39, tn40, tn41, tn42, tn43, tn44, tn45, tn46, tn47, tn48, tn49, tn50, tn51, tn52, tn53, tn54, tn55, tn56, tn57, tn58, tn59, tn60, lH_eq, true_and, and_true, hp, vp_in_nI (show r < 5 by omega) (show 5 < 2 ^ 31 by omega), nI_clamp (show r < 2 ^ 31 by omega), hf r hr, irm_eq]
    exact ⟨ha, sh_loop (by omega) p nr r f mu _ hp hr5 hr ha hf rfl rfl k nr 0 (by omega)⟩
  · rwa [if_neg z] at k
