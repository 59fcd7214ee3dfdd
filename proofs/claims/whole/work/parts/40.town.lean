/-! a town of the class -/
def TwnAt (h : AH) (t : Nat) : Prop := hS h t = (19, 10) ∧ hR h t 3 = t + 1 ∧ hR h t 4 = t + 7 ∧ hR h t 6 = t + 8 ∧ hR h t 7 = t + 9 ∧ hR h t 8 = t + 10 ∧ hS h (t + 7) = (7, 20) ∧ hS h (t + 8) = (1, 10) ∧ hS h (t + 9) = (1, 10) ∧ hS h (t + 10) = (1, 10) ∧ MomAt h (t + 1)
theorem twq_0 {h : AH} {t : Nat} (H : TwnAt h t) : hS h t = (19, 10) := H.1
theorem twq_1 {h : AH} {t : Nat} (H : TwnAt h t) : hR h t 3 = t + 1 := H.2.1
theorem twq_2 {h : AH} {t : Nat} (H : TwnAt h t) : hR h t 4 = t + 7 := H.2.2.1
theorem twq_3 {h : AH} {t : Nat} (H : TwnAt h t) : hR h t 6 = t + 8 := H.2.2.2.1
theorem twq_4 {h : AH} {t : Nat} (H : TwnAt h t) : hR h t 7 = t + 9 := H.2.2.2.2.1
theorem twq_5 {h : AH} {t : Nat} (H : TwnAt h t) : hR h t 8 = t + 10 := H.2.2.2.2.2.1
theorem twq_6 {h : AH} {t : Nat} (H : TwnAt h t) : hS h (t + 7) = (7, 20) := H.2.2.2.2.2.2.1
theorem twq_7 {h : AH} {t : Nat} (H : TwnAt h t) : hS h (t + 8) = (1, 10) := H.2.2.2.2.2.2.2.1
theorem twq_8 {h : AH} {t : Nat} (H : TwnAt h t) : hS h (t + 9) = (1, 10) := H.2.2.2.2.2.2.2.2.1
theorem twq_9 {h : AH} {t : Nat} (H : TwnAt h t) : hS h (t + 10) = (1, 10) := H.2.2.2.2.2.2.2.2.2.1
theorem twq_10 {h : AH} {t : Nat} (H : TwnAt h t) : hS h (t + 1) = (14, 6) := H.2.2.2.2.2.2.2.2.2.2.1
theorem TwnAt.mom {h : AH} {t : Nat} (H : TwnAt h t) : MomAt h (t + 1) := H.2.2.2.2.2.2.2.2.2.2
theorem TwnAt.fr {h h' : AH} {t : Nat} {S : Nat → Prop} (H : TwnAt h t) (f : Fr' h h' S) : TwnAt h' t := by
  simp only [TwnAt, MomAt, f.1, f.2.1] at H ⊢; exact H
/-- a hill, or none yet -/
def HilO (h : AH) (a nr nw : Nat) (A : PC) : Prop := (a = 0 ∧ nr = 0 ∧ nw = 0 ∧ A 0 0 = 0) ∨ (a ≠ 0 ∧ HilIs h a nr nw A)
theorem sp_hasRunner {d : Nat} {h : AH} {Q : Option Value → AH → Prop} (hd : 5 ≤ d) (t nr nw : Nat) (A : PC) (r : Int32) (H : TwnAt h t) (HH : HilO h (hR h t 0) nr nw A) (k : Q (some (.int (bI (0 ≤ r ∧ r < nI nr)))) h) : Calls d nX9_hasRunner [.ref t, .int r] h (hN h) (hU h) Q := by
  obtain ⟨e, rfl⟩ : ∃ e, d = e + 1 := ⟨d - 1, by omega⟩
  refine wX9_hasRunner (by omega) t r ?_
  simp only [rt_i, rt_b0, rt_b1, rt_v, rt_l, rt_o, rt_a, rV_none, rI_some, rL_some, rR_some, rT_some, rt_bI, hIf_sL, hIf_sR, hS_sI, hS_sL, hS_sR, hS_cpI, hR_sI, hR_sL, hR_cpI, hL_sI, hL_sR, hL_cpI, hI_sL, hI_sR, hN_sI, hN_sL, hN_sR, hN_cpI, hU_sI, hU_sL, hU_sR, hU_cpI, tn0, tn1, tn2, tn3, tn4, tn5, tn6, tn7, tn8, tn9, tn10, tn11, tn12, tn13, tn14, tn15, tn16, tn17, tn18, tn19, tn20, tn21, tn22, tn23, tn24, tn25, tn26, tn27, tn28, tn29, tn30, tn31, tn32, tn33, tn34, tn35, tn36, tn37, tn38, tn39, tn40, tn41, tn42, tn43, tn44, tn45, tn46, tn47, tn48, tn49, tn50, tn51, tn52, tn53, tn54, tn55, tn56, tn57, tn58, tn59, tn60, lH_eq, true_and, and_true, twq_0 H]
  rcases HH with ⟨h0, h1, -, -⟩ | ⟨h0, H0, h1, -⟩
  · subst h1
    refine ⟨fun _ => ?_, fun z => absurd h0 z⟩
    rwa [bI_f (fun z => absurd z.2 (Int32.not_lt.mpr z.1))] at k
  · simp only [hiq_0 H0, h1, true_and]
    refine ⟨fun z => absurd z h0, fun _ => ⟨fun z => ?_, fun z => ⟨fun y => ?_, fun y => ?_⟩⟩⟩
    · rwa [bI_f (fun y => absurd y.1 (Int32.not_le.mpr z))] at k
    · rwa [bI_f (fun x => absurd x.2 (Int32.not_lt.mpr y))] at k
    · rwa [bI_t ⟨i32_le_of z, i32_lt_of y⟩] at k
theorem sp_hasWare {d : Nat} {h : AH} {Q : Option Value → AH → Prop} (hd : 5 ≤ d) (t nr nw : Nat) (A : PC) (r : Int32) (H : TwnAt h t) (HH : HilO h (hR h t 0) nr nw A) (k : Q (some (.int (bI (0 ≤ r ∧ r < nI nw)))) h) : Calls d nX9_hasWare [.ref t, .int r] h (hN h) (hU h) Q := by
  obtain ⟨e, rfl⟩ : ∃ e, d = e + 1 := ⟨d - 1, by omega⟩
  refine wX9_hasWare (by omega) t r ?_
  simp only [rt_i, rt_b0, rt_b1, rt_v, rt_l, rt_o, rt_a, rV_none, rI_some, rL_some, rR_some, rT_some, rt_bI, hIf_sL, hIf_sR, hS_sI, hS_sL, hS_sR, hS_cpI, hR_sI, hR_sL, hR_cpI, hL_sI, hL_sR, hL_cpI, hI_sL, hI_sR, hN_sI, hN_sL, hN_sR, hN_cpI, hU_sI, hU_sL, hU_sR, hU_cpI, tn0, tn1, tn2, tn3, tn4, tn5, tn6, tn7, tn8, tn9, tn10, tn11, tn12, tn13, tn14, tn15, tn16, tn17, tn18, tn19, tn20, tn21, tn22, tn23, tn24, tn25, tn26, tn27, tn28, tn29, tn30, tn31, tn32, tn33, tn34, tn35, tn36, tn37, tn38, tn39, tn40, tn41, tn42, tn43, tn44, tn45, tn46, tn47, tn48, tn49, tn50, tn51, tn52, tn53, tn54, tn55, tn56, tn57, tn58, tn59, tn60, lH_eq, true_and, and_true, twq_0 H]
  rcases HH with ⟨h0, -, h1, -⟩ | ⟨h0, H0, -, h1, -⟩
  · subst h1
    refine ⟨fun _ => ?_, fun z => absurd h0 z⟩
    rwa [bI_f (fun z => absurd z.2 (Int32.not_lt.mpr z.1))] at k
  · simp only [hiq_0 H0, h1, true_and]
    refine ⟨fun z => absurd z h0, fun _ => ⟨fun z => ?_, fun z => ⟨fun y => ?_, fun y => ?_⟩⟩⟩
    · rwa [bI_f (fun y => absurd y.1 (Int32.not_le.mpr z))] at k
    · rwa [bI_f (fun x => absurd x.2 (Int32.not_lt.mpr y))] at k
    · rwa [bI_t ⟨i32_le_of z, i32_lt_of y⟩] at k
theorem woa_loop {d E1 E2 : Nat} {Q : Option Value → AH → Prop} {h : AH} (hd : 4 ≤ d) (t : Nat) (H : TwnAt h t) (e1 : hN h = E1) (e2 : hU h = E2) (k : Q (some (.int (suF (hI h (t + 1 + 3)) 5))) h) : ∀ n i : Nat, i + n = 5 → Reach d nX9_wealthOfAll (4, [.ref t, .int (suF (hI h (t + 1 + 3)) i), .int (nI i)], []) h E1 E2 Q
  | 0, i, hi => by
    have : i = 5 := by omega
    subst this
    refine wX9_wealthOfAll_4 hd t _ (nI 5) ?_
    simp only [rt_i, rt_b0, rt_b1, rt_v, rt_l, rt_o, rt_a, rV_none, rI_some, rL_some, rR_some, rT_some, rt_bI, hIf_sL, hIf_sR, hS_sI, hS_sL, hS_sR, hS_cpI, hR_sI, hR_sL, hR_cpI, hL_sI, hL_sR, hL_cpI, hI_sL, hI_sR, hN_sI, hN_sL, hN_sR, hN_cpI, hU_sI, hU_sL, hU_sR, hU_cpI, tn0, tn1, tn2, tn3, tn4, tn5, tn6, tn7, tn8, tn9, tn10, tn11, tn12, tn13, tn14, tn15, tn16, tn17, tn18, tn19, tn20, tn21, tn22, tn23, tn24, tn25, tn26, tn27, tn28, tn29, tn30, tn31, tn32, tn33, tn34, tn35, tn36, tn37, tn38, tn39, tn40, tn41, tn42, tn43, tn44, tn45, tn46, tn47, tn48, tn49, tn50, tn51, tn52, tn53, tn54, tn55, tn56, tn57, tn58, tn59, tn60, lH_eq, true_and, and_true]
    exact ⟨fun _ => ⟨e1, e2, k⟩, fun z => absurd (by decide) z⟩
  | n + 1, i, hi => by
    refine wX9_wealthOfAll_4 hd t _ (nI i) ?_
    have h5 : (5 ≤ nI i) = (5 ≤ i) := nI_le_iff (a := 5) (by decide) (by omega)
    simp only [rt_i, rt_b0, rt_b1, rt_v, rt_l, rt_o, rt_a, rV_none, rI_some, rL_some, rR_some, rT_some, rt_bI, hIf_sL, hIf_sR, hS_sI, hS_sL, hS_sR, hS_cpI, hR_sI, hR_sL, hR_cpI, hL_sI, hL_sR, hL_cpI, hI_sL, hI_sR, hN_sI, hN_sL, hN_sR, hN_cpI, hU_sI, hU_sL, hU_sR, hU_cpI, tn0, tn1, tn2, tn3, tn4, tn5, tn6, tn7, tn8, tn9, tn10, tn11, tn12, tn13, tn14, tn15, tn16, tn17, tn18, tn19, tn20, tn21, tn22, tn23, tn24, tn25, tn26, tn27, tn28, tn29, tn30, tn31, tn32, tn33, tn34, tn35, tn36, tn37, tn38, tn39, tn40, tn41, tn42, tn43, tn44, tn45, tn46, tn47, tn48, tn49, tn50, tn51, tn52, tn53, tn54, tn55, tn56, tn57, tn58, tn59, tn60, lH_eq, true_and, and_true, h5, twq_0 H, twq_1 H, twq_2 H, twq_3 H, twq_4 H, twq_5 H, twq_6 H, twq_7 H, twq_8 H, twq_9 H, twq_10 H, moq_0 H.mom, moq_1 H.mom, moq_2 H.mom, moq_3 H.mom, moq_4 H.mom, moq_5 H.mom, moq_6 H.mom, moq_7 H.mom, moq_8 H.mom, moq_9 H.mom, moq_10 H.mom, vp_in_nI (show i < 5 by omega) (show 5 < 2 ^ 31 by omega), nI_clamp (show i < 2 ^ 31 by omega), nI_1]
    exact ⟨fun z => absurd z (by omega), fun _ => woa_loop hd t H e1 e2 k n (i + 1) (by omega)⟩
theorem sp_wealthOfAll {d : Nat} {h : AH} {Q : Option Value → AH → Prop} (hd : 5 ≤ d) (t : Nat) (H : TwnAt h t) (k : Q (some (.int (suF (hI h (t + 1 + 3)) 5))) h) : Calls d nX9_wealthOfAll [.ref t] h (hN h) (hU h) Q := by
  obtain ⟨e, rfl⟩ : ∃ e, d = e + 1 := ⟨d - 1, by omega⟩
  exact wX9_wealthOfAll (by omega) t (woa_loop (by omega) t H rfl rfl k 5 0 (by omega))
theorem suF_cg {f g : Nat → Int32} : ∀ {n : Nat}, (∀ j, j < n → f j = g j) → suF f n = suF g n
  | 0, _ => rfl
  | n + 1, h => by
    have ih := suF_cg (fun j hj => h j (Nat.lt_succ_of_lt hj))
    simp only [suF, ih, h n (Nat.lt_succ_self n)]
theorem suF_tail {f : Nat → Int32} (n : Nat) : ∀ k, (∀ j, n ≤ j → j < n + k → f j = 0) → suF f (n + k) = suF f n
  | 0, _ => rfl
  | k + 1, h => by
    have ih := suF_tail n k (fun j h1 h2 => h j h1 (by omega))
    show suF f (n + k) + f (n + k) = suF f n
    rw [ih, h (n + k) (by omega) (by omega), Int32.add_zero]
/-- the wares that are there, as bits -/
def thBits (th : Nat → Bool) : Nat → Int32
  | 0 => 0
  | n + 1 => if th n = true then thBits th n ||| ((1 : Int32) <<< (nI n &&& 31)) else thBits th n
theorem wat_loop {d E1 E2 : Nat} {Q : Option Value → AH → Prop} {h : AH} (hd : 5 ≤ d) (t nr nw : Nat) (A : PC) (H : TwnAt h t) (HH : HilO h (hR h t 0) nr nw A) (hw6 : nw ≤ 6) (e1 : hN h = E1) (e2 : hU h = E2) (k : Q (some (.int (thBits (fun w => decide (w < nw) && thB (A 5) (hI h (t + 1) 0) w) 6))) h) : ∀ n i : Nat, i + n = 6 → Reach d nX9_waresThere (4, [.ref t, .int (thBits (fun w => decide (w < nw) && thB (A 5) (hI h (t + 1) 0) w) i), .int (nI i)], []) h E1 E2 Q
  | 0, i, hi => by
    have : i = 6 := by omega
    subst this
    refine wX9_waresThere_4 (by omega) t _ (nI 6) ?_
    simp only [rt_i, rt_b0, rt_b1, rt_v, rt_l, rt_o, rt_a, rV_none, rI_some, rL_some, rR_some, rT_some, rt_bI, hIf_sL, hIf_sR, hS_sI, hS_sL, hS_sR, hS_cpI, hR_sI, hR_sL, hR_cpI, hL_sI, hL_sR, hL_cpI, hI_sL, hI_sR, hN_sI, hN_sL, hN_sR, hN_cpI, hU_sI, hU_sL, hU_sR, hU_cpI, tn0, tn1, tn2, tn3, tn4, tn5, tn6, tn7, tn8, tn9, tn10, tn11, tn12, tn13, tn14, tn15, tn16, tn17, tn18, tn19, tn20, tn21, tn22, tn23, tn24, tn25, tn26, tn27, tn28, tn29, tn30, tn31, tn32, tn33, tn34, tn35, tn36, tn37, tn38, tn39, tn40, tn41, tn42, tn43, tn44, tn45, tn46, tn47, tn48, tn49, tn50, tn51, tn52, tn53, tn54, tn55, tn56, tn57, tn58, tn59, tn60, lH_eq, true_and, and_true]
    exact ⟨fun _ => ⟨e1, e2, k⟩, fun z => absurd (by decide) z⟩
  | n + 1, i, hi => by
    have ih := wat_loop hd t nr nw A H HH hw6 e1 e2 k n (i + 1) (by omega)
    refine wX9_waresThere_4 (by omega) t _ (nI i) ?_
    have h5 : (6 ≤ nI i) = (6 ≤ i) := nI_le_iff (a := 6) (by decide) (by omega)
    simp only [rt_i, rt_b0, rt_b1, rt_v, rt_l, rt_o, rt_a, rV_none, rI_some, rL_some, rR_some, rT_some, rt_bI, hIf_sL, hIf_sR, hS_sI, hS_sL, hS_sR, hS_cpI, hR_sI, hR_sL, hR_cpI, hL_sI, hL_sR, hL_cpI, hI_sL, hI_sR, hN_sI, hN_sL, hN_sR, hN_cpI, hU_sI, hU_sL, hU_sR, hU_cpI, tn0, tn1, tn2, tn3, tn4, tn5, tn6, tn7, tn8, tn9, tn10, tn11, tn12, tn13, tn14, tn15, tn16, tn17, tn18, tn19, tn20, tn21, tn22, tn23, tn24, tn25, tn26, tn27, tn28, tn29, tn30, tn31, tn32, tn33, tn34, tn35, tn36, tn37, tn38, tn39, tn40, tn41, tn42, tn43, tn44, tn45, tn46, tn47, tn48, tn49, tn50, tn51, tn52, tn53, tn54, tn55, tn56, tn57, tn58, tn59, tn60, lH_eq, true_and, and_true, h5, twq_0 H]
    refine ⟨fun z => absurd z (by omega), fun _ => ?_⟩
    refine sp_hasWare (by omega) t nr nw A _ H HH ?_
    have h0 : (0 ≤ nI i) = True := by
      rw [show (0 : Int32) = nI 0 from rfl, nI_le_iff (by omega) (by omega)]; simp
    simp only [rI_some, bI0, h0, true_and, nI_lt_iff (show i < 2 ^ 31 by omega) (show nw < 2 ^ 31 by omega), nI_1]
    simp only [thBits] at ih
    refine ⟨fun z => ?_, fun z => ?_⟩
    · rwa [if_neg (by simp [z])] at ih
    · have z : i < nw := Decidable.not_not.mp z
      rcases HH with ⟨h0, -, h1, -⟩ | ⟨h0, H0, h1, h2, h3, h4, h5, h6⟩
      · omega
      · simp only [twq_0 H, twq_1 H, twq_2 H, twq_3 H, twq_4 H, twq_5 H, twq_6 H, twq_7 H, twq_8 H, twq_9 H, twq_10 H, hiq_0 H0, true_and]
        refine sp_isThere (by omega) _ i _ H0 (by omega) ?_
        have e5 : hI h (hR h t 0 + 5) i = A 5 i := (h5.2 i z).2
        simp only [rI_some, bI0, e5]
        have ht := thB_t (A 5) (hI h (t + 1) 0) i
        refine ⟨fun y => ?_, fun y => ?_⟩
        · rwa [if_neg (by simp only [Bool.and_eq_true, ht]; exact fun x => y x.2)] at ih
        · rwa [if_pos (by simp only [Bool.and_eq_true, ht, decide_eq_true_eq]; exact ⟨z, Decidable.not_not.mp y⟩)] at ih
theorem sp_waresThere {d : Nat} {h : AH} {Q : Option Value → AH → Prop} (hd : 6 ≤ d) (t nr nw : Nat) (A : PC) (H : TwnAt h t) (HH : HilO h (hR h t 0) nr nw A) (hw6 : nw ≤ 6) (k : Q (some (.int (thBits (fun w => decide (w < nw) && thB (A 5) (hI h (t + 1) 0) w) 6))) h) : Calls d nX9_waresThere [.ref t] h (hN h) (hU h) Q := by
  obtain ⟨e, rfl⟩ : ∃ e, d = e + 1 := ⟨d - 1, by omega⟩
  exact wX9_waresThere (by omega) t (wat_loop (by omega) t nr nw A H HH hw6 rfl rfl k 6 0 (by omega))
theorem sp_writeDown {d : Nat} {h : AH} {Q : Option Value → AH → Prop} (hd : 5 ≤ d) (t n : Nat) (a b c : Int32) (H : TwnAt h t) (hn : hI h t 9 = nI n) (hn10 : n < 10) (k : ∀ h', Fr' h h' (fun b => b = t ∨ b = t + 8 ∨ b = t + 9 ∨ b = t + 10) → (∀ j, hI h' t j = if j = 9 then nI (n + 1) else hI h t j) → (∀ j, hI h' (t + 8) j = if j = n then a else hI h (t + 8) j) → (∀ j, hI h' (t + 9) j = if j = n then b else hI h (t + 9) j) → (∀ j, hI h' (t + 10) j = if j = n then c else hI h (t + 10) j) → Q none h') : Calls d nX9_writeDown [.ref t, .int a, .int b, .int c] h (hN h) (hU h) Q := by
  obtain ⟨e, rfl⟩ : ∃ e, d = e + 1 := ⟨d - 1, by omega⟩
  refine wX9_writeDown (by omega) t a b c ?_
  have h5 : (10 ≤ nI n) = (10 ≤ n) := nI_le_iff (a := 10) (by decide) (by omega)
  simp only [rt_i, rt_b0, rt_b1, rt_v, rt_l, rt_o, rt_a, rV_none, rI_some, rL_some, rR_some, rT_some, rt_bI, hIf_sL, hIf_sR, hS_sI, hS_sL, hS_sR, hS_cpI, hR_sI, hR_sL, hR_cpI, hL_sI, hL_sR, hL_cpI, hI_sL, hI_sR, hN_sI, hN_sL, hN_sR, hN_cpI, hU_sI, hU_sL, hU_sR, hU_cpI, tn0, tn1, tn2, tn3, tn4, tn5, tn6, tn7, tn8, tn9, tn10, tn11, tn12, tn13, tn14, tn15, tn16, tn17, tn18, tn19, tn20, tn21, tn22, tn23, tn24, tn25, tn26, tn27, tn28, tn29, tn30, tn31, tn32, tn33, tn34, tn35, tn36, tn37, tn38, tn39, tn40, tn41, tn42, tn43, tn44, tn45, tn46, tn47, tn48, tn49, tn50, tn51, tn52, tn53, tn54, tn55, tn56, tn57, tn58, tn59, tn60, lH_eq, true_and, and_true, twq_0 H, twq_1 H, twq_2 H, twq_3 H, twq_4 H, twq_5 H, twq_6 H, twq_7 H, twq_8 H, twq_9 H, twq_10 H, hn, h5, vp_in_nI (show n < 10 by omega) (show 10 < 2 ^ 31 by omega), nI_clamp (show n < 2 ^ 31 by omega), hI_sI, show (t = t + 8) = False by simp, show (t = t + 9) = False by simp, show (t = t + 10) = False by simp, if_false, nI_1]
  refine ⟨fun z => absurd z (by omega), fun _ => ?_⟩
  refine k _ ((((Fr'.sI (Or.inr (Or.inl rfl))).trans (Fr'.sI (Or.inr (Or.inr (Or.inl rfl))))).trans (Fr'.sI (Or.inr (Or.inr (Or.inr rfl))))).trans (Fr'.sI (Or.inl rfl))) (fun j => ?_) (fun j => ?_) (fun j => ?_) (fun j => ?_)
  all_goals simp only [hI_sI]
  all_goals simp
