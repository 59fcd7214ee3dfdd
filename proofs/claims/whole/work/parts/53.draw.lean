/-! drawn falls -/
theorem lN_and (n : Nat) (h : n < 2 ^ 63) : lN n &&& 2147483647 = lN (n % 2 ^ 31) := by
  apply Int64.toBitVec_inj.mp
  apply BitVec.eq_of_toNat_eq
  have e1 : (lN n).toBitVec.toNat = n := Nat.mod_eq_of_lt (by omega)
  have e2 : (lN (n % 2 ^ 31)).toBitVec.toNat = n % 2 ^ 31 := Nat.mod_eq_of_lt (by omega)
  have e3 : ((2147483647 : Int64)).toBitVec.toNat = 2 ^ 31 - 1 := by decide
  rw [Int64.toBitVec_and, BitVec.toNat_and, e1, e2, e3, Nat.and_two_pow_sub_one_eq_mod]
def drN (k : Nat) : Nat := (k * 1103515245 + 12345) % 2147483648
theorem drN_lt (k : Nat) : drN k < 2147483648 := Nat.mod_lt _ (by decide)
theorem dr_long (k : Nat) (h : k < 2 ^ 31) : (nI k).toInt64 * 1103515245 + 12345 = lN (k * 1103515245 + 12345) := by
  rw [nI_l h]
  show Int64.ofNat k * Int64.ofNat 1103515245 + Int64.ofNat 12345 = Int64.ofNat (k * 1103515245 + 12345)
  rw [← Int64.ofNat_mul, ← Int64.ofNat_add]
theorem dr_and (k : Nat) (h : k < 2 ^ 31) : (((nI k).toInt64 * 1103515245 + 12345) &&& 2147483647).toInt32 = nI (drN k) := by
  rw [dr_long k h, lN_and _ (by omega), lN_i]
  rfl
theorem dr_rem (k : Nat) (h : k < 2 ^ 31) : (((nI k).toInt64 * 1103515245 + 12345) - ((nI k).toInt64 * 1103515245 + 12345) / 2147483648 * 2147483648).toInt32 = nI (drN k) := by
  rw [dr_long k h]
  have := pk_lRem (a := k * 1103515245 + 12345) (b := 2147483648) (by omega) (by decide) (by decide)
  rw [show (2147483648 : Int64) = lN 2147483648 from rfl, this, lN_i]
  rfl
/-- how the next number is drawn; kept closed, for its numbers are large -/
def DrOk (dr : Nat → Nat) : Prop := ∀ x, x < 2 ^ 31 → dr x < 2 ^ 31 ∧ (((nI x).toInt64 * 1103515245 + 12345) &&& 2147483647).toInt32 = nI (dr x) ∧ (((nI x).toInt64 * 1103515245 + 12345) - ((nI x).toInt64 * 1103515245 + 12345) / 2147483648 * 2147483648).toInt32 = nI (dr x)
theorem drOk_ex : ∃ dr, DrOk dr := ⟨drN, fun x hx => ⟨drN_lt x, dr_and x hx, dr_rem x hx⟩⟩
theorem sp_draw {d : Nat} {h : AH} {Q : Option Value → AH → Prop} {dr : Nat → Nat} (hdr : DrOk dr) (hd : 5 ≤ d) (f x : Nat) (hx : x < 2 ^ 31) (h0 : hS h f = (12, 5)) (h4 : hI h f 4 = nI x) (k : Q (some (.int (nI (dr x / 65536)))) (sI h f 4 (nI (dr x)))) : Calls d nX2_draw [.ref f] h (hN h) (hU h) Q := by
  obtain ⟨e, rfl⟩ : ∃ e, d = e + 1 := ⟨d - 1, by omega⟩
  obtain ⟨hl, hda, -⟩ := hdr x hx
  refine wX2_draw (by omega) f ?_
  have e : nI (dr x) / 65536 = nI (dr x / 65536) := pk_div (d := 65536) (by omega) (by decide) (by decide)
  simp only [rt_i, rt_b0, rt_b1, rt_v, rt_l, rt_o, rt_a, rV_none, rI_some, rL_some, rR_some, rT_some, rt_bI, hIf_sL, hIf_sR, hS_sI, hS_sL, hS_sR, hS_cpI, hR_sI, hR_sL, hR_cpI, hL_sI, hL_sR, hL_cpI, hI_sL, hI_sR, hN_sI, hN_sL, hN_sR, hN_cpI, hU_sI, hU_sL, hU_sR, hU_cpI, tn0, tn1, tn2, tn3, tn4, tn5, tn6, tn7, tn8, tn9, tn10, tn11, tn12, tn13, tn14, tn15, tn16, tn17, tn18, tn19, tn20, tn21, tn22, tn23, tn24, tn25, tn26, tn27, tn28, tn29, tn30, tn31, tn32, tn33, tn34, tn35, tn36, tn37, tn38, tn39, tn40, tn41, tn42, tn43, tn44, tn45, tn46, tn47, tn48, tn49, tn50, tn51, tn52, tn53, tn54, tn55, tn56, tn57, tn58, tn59, tn60, lH_eq, true_and, and_true, h0, h4, hda, hI_sI, if_true, e]
  exact ⟨by decide, k⟩
/-- a fall is drawn -/
def dfF (dr : Nat → Nat) (nr p : Nat) (s : Nat × PC) : Nat × PC := if dr s.1 / 65536 % 100 < p ∧ 0 < nr then (dr (dr s.1), setP s.2 (dr (dr s.1) / 65536 % nr) 0) else (dr s.1, s.2)
theorem sp_drawFall {d : Nat} {h : AH} {Q : Option Value → AH → Prop} {dr : Nat → Nat} (hdr : DrOk dr) (hd : 6 ≤ d) (f t a ru nr nw p : Nat) (A M N : PC) (R : Option (List (List (Nat × Nat) × List (Nat × Nat)))) (x : Nat) (hx : x < 2 ^ 31) (hp : p ≤ 100) (H : FC h f t a ru nr nw A M R) (HN : MomIs h (f + 6) nr nw N) (h4 : hI h f 4 = nI x) (k : ∀ h', Fr' h h' (FB f) → hI h' f 4 = nI (dfF dr nr p (x, N)).1 → MomIs h' (f + 6) nr nw (dfF dr nr p (x, N)).2 → Q none h') : Calls d nX2_drawFall [.ref f, .int (nI p)] h (hN h) (hU h) Q := by
  obtain ⟨e, rfl⟩ : ∃ e, d = e + 1 := ⟨d - 1, by omega⟩
  have HC := H
  obtain ⟨⟨h0, h1, h2, h3, h4', h5⟩, ⟨c1, c2, c3, c4, c5, c6, c7⟩, d1, d2, d3⟩ := H
  have b1 := c4.2.2.2.1
  have b2 := c4.2.2.2.2.1
  have l1 := (hdr x hx).1
  have l2 := (hdr (dr x) l1).1
  refine wX2_drawFall (by omega) f (nI p) ?_
  simp only [rt_i, rt_b0, rt_b1, rt_v, rt_l, rt_o, rt_a, rV_none, rI_some, rL_some, rR_some, rT_some, rt_bI, hIf_sL, hIf_sR, hS_sI, hS_sL, hS_sR, hS_cpI, hR_sI, hR_sL, hR_cpI, hL_sI, hL_sR, hL_cpI, hI_sL, hI_sR, hN_sI, hN_sL, hN_sR, hN_cpI, hU_sI, hU_sL, hU_sR, hU_cpI, tn0, tn1, tn2, tn3, tn4, tn5, tn6, tn7, tn8, tn9, tn10, tn11, tn12, tn13, tn14, tn15, tn16, tn17, tn18, tn19, tn20, tn21, tn22, tn23, tn24, tn25, tn26, tn27, tn28, tn29, tn30, tn31, tn32, tn33, tn34, tn35, tn36, tn37, tn38, tn39, tn40, tn41, tn42, tn43, tn44, tn45, tn46, tn47, tn48, tn49, tn50, tn51, tn52, tn53, tn54, tn55, tn56, tn57, tn58, tn59, tn60, lH_eq, true_and, and_true, h0, h1, h2, h3, h5, twq_0 c3, hiq_0 c4.1, c4.2.1]
  refine sp_draw hdr (by omega) f x hx h0 h4 ?_
  have fr1 : Fr' h (sI h f 4 (nI (dr x))) (FB f) := Fr'.sI (Or.inl rfl)
  have e1 : nI (dr x / 65536) - nI (dr x / 65536) / 100 * 100 = nI (dr x / 65536 % 100) := pk_rem (d := 100) (by omega) (by decide) (by decide)
  have e2 : (nI nr ≤ 0) = (nr ≤ 0) := nI_le_iff (b := 0) (by omega) (by decide)
  have m1 : MomIs (sI h f 4 (nI (dr x))) (f + 6) nr nw N := HN.fr b1 b2 (S := fun c => c = f) (Fr'.sI rfl) (fun b z1 z2 z => by omega)
  simp only [rI_some, rt_i, rt_b0, rt_b1, rt_v, rt_l, rt_o, rt_a, rV_none, rI_some, rL_some, rR_some, rT_some, rt_bI, hIf_sL, hIf_sR, hS_sI, hS_sL, hS_sR, hS_cpI, hR_sI, hR_sL, hR_cpI, hL_sI, hL_sR, hL_cpI, hI_sL, hI_sR, hN_sI, hN_sL, hN_sR, hN_cpI, hU_sI, hU_sL, hU_sR, hU_cpI, tn0, tn1, tn2, tn3, tn4, tn5, tn6, tn7, tn8, tn9, tn10, tn11, tn12, tn13, tn14, tn15, tn16, tn17, tn18, tn19, tn20, tn21, tn22, tn23, tn24, tn25, tn26, tn27, tn28, tn29, tn30, tn31, tn32, tn33, tn34, tn35, tn36, tn37, tn38, tn39, tn40, tn41, tn42, tn43, tn44, tn45, tn46, tn47, tn48, tn49, tn50, tn51, tn52, tn53, tn54, tn55, tn56, tn57, tn58, tn59, tn60, lH_eq, true_and, and_true, h0, h1, h2, moq_0 c2, e1, e2, nI_le_iff (show p < 2 ^ 31 by omega) (show dr x / 65536 % 100 < 2 ^ 31 by omega)]
  refine ⟨by decide, fun z => ?_, fun z => ⟨fun y => ?_, fun y => ?_⟩⟩
  · have e : dfF dr nr p (x, N) = (dr x, N) := by simp only [dfF]; rw [if_neg (by omega)]
    exact k _ fr1 (by rw [e, hI_sI, if_pos rfl, if_pos rfl]) (by rw [e]; exact m1)
  · have e : dfF dr nr p (x, N) = (dr x, N) := by simp only [dfF]; rw [if_neg (by omega)]
    exact k _ fr1 (by rw [e, hI_sI, if_pos rfl, if_pos rfl]) (by rw [e]; exact m1)
  · refine sp_draw hdr (h := sI h f 4 (nI (dr x))) (by omega) f (dr x) (by omega) h0 (by rw [hI_sI, if_pos rfl, if_pos rfl]) ?_
    have e3 : nI (dr (dr x) / 65536) - nI (dr (dr x) / 65536) / nI nr * nI nr = nI (dr (dr x) / 65536 % nr) := pk_rem (by omega) (by omega) (by omega)
    have hm := Nat.mod_lt (dr (dr x) / 65536) (show 0 < nr by omega)
    simp only [rI_some, rt_i, rt_b0, rt_b1, rt_v, rt_l, rt_o, rt_a, rV_none, rI_some, rL_some, rR_some, rT_some, rt_bI, hIf_sL, hIf_sR, hS_sI, hS_sL, hS_sR, hS_cpI, hR_sI, hR_sL, hR_cpI, hL_sI, hL_sR, hL_cpI, hI_sL, hI_sR, hN_sI, hN_sL, hN_sR, hN_cpI, hU_sI, hU_sL, hU_sR, hU_cpI, tn0, tn1, tn2, tn3, tn4, tn5, tn6, tn7, tn8, tn9, tn10, tn11, tn12, tn13, tn14, tn15, tn16, tn17, tn18, tn19, tn20, tn21, tn22, tn23, tn24, tn25, tn26, tn27, tn28, tn29, tn30, tn31, tn32, tn33, tn34, tn35, tn36, tn37, tn38, tn39, tn40, tn41, tn42, tn43, tn44, tn45, tn46, tn47, tn48, tn49, tn50, tn51, tn52, tn53, tn54, tn55, tn56, tn57, tn58, tn59, tn60, lH_eq, true_and, and_true, moq_0 c2, moq_1 c2, moq_2 c2, moq_3 c2, moq_4 c2, moq_5 c2, moq_6 c2, moq_7 c2, moq_8 c2, moq_9 c2, moq_10 c2, e3, vp_in_nI (show dr (dr x) / 65536 % nr < 5 by omega) (show 5 < 2 ^ 31 by omega), nI_clamp (show dr (dr x) / 65536 % nr < 2 ^ 31 by omega)]
    refine ⟨nI_ne0 (by omega) (by omega), ?_⟩
    have e : dfF dr nr p (x, N) = (dr (dr x), setP N (dr (dr x) / 65536 % nr) 0) := by simp only [dfF]; rw [if_pos (by omega)]
    have fr2 : Fr' (sI h f 4 (nI (dr x))) (sI (sI h f 4 (nI (dr x))) f 4 (nI (dr (dr x)))) (fun c => c = f) := Fr'.sI rfl
    have m2 := m1.fr b1 b2 fr2 (fun b z1 z2 z => by omega)
    refine k _ ((fr1.trans (fr2.mono (fun c z => Or.inl z))).trans (Fr'.sI (by unfold FB; omega))) ?_ ?_
    · rw [e, hI_sI, if_neg (by omega), hI_sI, if_pos rfl, if_pos rfl]
    · rw [e]
      exact m2.setP hm b1 rfl
/-- days with falls -/
noncomputable def fdF (dr : Nat → Nat) (R : Option (List (List (Nat × Nat) × List (Nat × Nat)))) (A : PC) (nr nw p : Nat) : Nat → Nat × PC → Nat × PC
  | 0, s => s
  | n + 1, s => fdF dr R A nr nw p n ((dfF dr nr p s).1, paF R A nr nw (fun _ => none) (dfF dr nr p s).2)
/-- what all have got -/
def gaF (N M : PC) : Nat → Int32
  | 0 => 0
  | n + 1 => gaF N M n + (N 3 n - M 3 n)
def gpF (N : PC) : Nat → Int32
  | 0 => 0
  | n + 1 => if gpF N n < N 2 n then N 2 n else gpF N n
noncomputable def fsF (dr : Nat → Nat) (R : Option (List (List (Nat × Nat) × List (Nat × Nat)))) (A : PC) (nr nw p days : Nat) (M : PC) : Nat → Nat × Int32 × Int32 → Nat × Int32 × Int32
  | 0, s => s
  | n + 1, s => fsF dr R A nr nw p days M n ((fdF dr R A nr nw p days (s.1, M)).1, s.2.1 + gaF (fdF dr R A nr nw p days (s.1, M)).2 M nr, s.2.2 + gpF (fdF dr R A nr nw p days (s.1, M)).2 nr)
theorem ga_loop {d E1 E2 : Nat} {Q : Option Value → AH → Prop} {h : AH} (hd : 4 ≤ d) (f t a ru nr nw : Nat) (A M N : PC) (R : Option (List (List (Nat × Nat) × List (Nat × Nat)))) (H : FC h f t a ru nr nw A M R) (HN : MomIs h (f + 6) nr nw N) (e1 : hN h = E1) (e2 : hU h = E2) (k : Q (some (.int (gaF N M nr))) h) : ∀ n i : Nat, i + n = nr → Reach d nX2_gain (4, [.ref f, .int (gaF N M i), .int (nI i)], []) h E1 E2 Q
  | 0, i, hi => by
    have : i = nr := by omega
    subst this
    obtain ⟨⟨h0, h1, h2, h3, h4, h5⟩, ⟨c1, c2, c3, c4, c5, c6, c7⟩, d1, d2, d3⟩ := H
    have b1 := c4.2.2.2.1
    refine wX2_gain_4 hd f _ (nI i) ?_
    simp only [rt_i, rt_b0, rt_b1, rt_v, rt_l, rt_o, rt_a, rV_none, rI_some, rL_some, rR_some, rT_some, rt_bI, hIf_sL, hIf_sR, hS_sI, hS_sL, hS_sR, hS_cpI, hR_sI, hR_sL, hR_cpI, hL_sI, hL_sR, hL_cpI, hI_sL, hI_sR, hN_sI, hN_sL, hN_sR, hN_cpI, hU_sI, hU_sL, hU_sR, hU_cpI, tn0, tn1, tn2, tn3, tn4, tn5, tn6, tn7, tn8, tn9, tn10, tn11, tn12, tn13, tn14, tn15, tn16, tn17, tn18, tn19, tn20, tn21, tn22, tn23, tn24, tn25, tn26, tn27, tn28, tn29, tn30, tn31, tn32, tn33, tn34, tn35, tn36, tn37, tn38, tn39, tn40, tn41, tn42, tn43, tn44, tn45, tn46, tn47, tn48, tn49, tn50, tn51, tn52, tn53, tn54, tn55, tn56, tn57, tn58, tn59, tn60, lH_eq, true_and, and_true, h0, h3, h5, twq_0 c3, hiq_0 c4.1, c4.2.1, nI_le_iff (show i < 2 ^ 31 by omega) (show i < 2 ^ 31 by omega)]
    exact ⟨fun _ => ⟨e1, e2, k⟩, fun z => absurd (Nat.le_refl i) z⟩
  | n + 1, i, hi => by
    have ih := ga_loop hd f t a ru nr nw A M N R H HN e1 e2 k n (i + 1) (by omega)
    obtain ⟨⟨h0, h1, h2, h3, h4, h5⟩, ⟨c1, c2, c3, c4, c5, c6, c7⟩, d1, d2, d3⟩ := H
    have b1 := c4.2.2.2.1
    have p1 : hI h (f + 6 + 3) i = N 3 i := (HN.2.1.2.1 i (by omega)).2.2
    have p2 : hI h (t + 1 + 3) i = M 3 i := (c7.2.1.2.1 i (by omega)).2.2
    refine wX2_gain_4 hd f _ (nI i) ?_
    simp only [rt_i, rt_b0, rt_b1, rt_v, rt_l, rt_o, rt_a, rV_none, rI_some, rL_some, rR_some, rT_some, rt_bI, hIf_sL, hIf_sR, hS_sI, hS_sL, hS_sR, hS_cpI, hR_sI, hR_sL, hR_cpI, hL_sI, hL_sR, hL_cpI, hI_sL, hI_sR, hN_sI, hN_sL, hN_sR, hN_cpI, hU_sI, hU_sL, hU_sR, hU_cpI, tn0, tn1, tn2, tn3, tn4, tn5, tn6, tn7, tn8, tn9, tn10, tn11, tn12, tn13, tn14, tn15, tn16, tn17, tn18, tn19, tn20, tn21, tn22, tn23, tn24, tn25, tn26, tn27, tn28, tn29, tn30, tn31, tn32, tn33, tn34, tn35, tn36, tn37, tn38, tn39, tn40, tn41, tn42, tn43, tn44, tn45, tn46, tn47, tn48, tn49, tn50, tn51, tn52, tn53, tn54, tn55, tn56, tn57, tn58, tn59, tn60, lH_eq, true_and, and_true, h0, h2, h3, h5, twq_0 c3, twq_1 c3, twq_2 c3, twq_3 c3, twq_4 c3, twq_5 c3, twq_6 c3, twq_7 c3, twq_8 c3, twq_9 c3, twq_10 c3, moq_0 c2, moq_1 c2, moq_2 c2, moq_3 c2, moq_4 c2, moq_5 c2, moq_6 c2, moq_7 c2, moq_8 c2, moq_9 c2, moq_10 c2, moq_0 c3.mom, moq_1 c3.mom, moq_2 c3.mom, moq_3 c3.mom, moq_4 c3.mom, moq_5 c3.mom, moq_6 c3.mom, moq_7 c3.mom, moq_8 c3.mom, moq_9 c3.mom, moq_10 c3.mom, hiq_0 c4.1, c4.2.1, nI_le_iff (show nr < 2 ^ 31 by omega) (show i < 2 ^ 31 by omega), vp_in_nI (show i < 5 by omega) (show 5 < 2 ^ 31 by omega), nI_clamp (show i < 2 ^ 31 by omega), p1, p2, nI_1]
    exact ⟨fun z => absurd z (by omega), fun _ => ih⟩
theorem sp_gain {d : Nat} {h : AH} {Q : Option Value → AH → Prop} (hd : 5 ≤ d) (f t a ru nr nw : Nat) (A M N : PC) (R : Option (List (List (Nat × Nat) × List (Nat × Nat)))) (H : FC h f t a ru nr nw A M R) (HN : MomIs h (f + 6) nr nw N) (k : Q (some (.int (gaF N M nr))) h) : Calls d nX2_gain [.ref f] h (hN h) (hU h) Q := by
  obtain ⟨e, rfl⟩ : ∃ e, d = e + 1 := ⟨d - 1, by omega⟩
  exact wX2_gain (by omega) f (ga_loop (by omega) f t a ru nr nw A M N R H HN rfl rfl k nr 0 (by omega))
theorem gp_loop {d E1 E2 : Nat} {Q : Option Value → AH → Prop} {h : AH} (hd : 4 ≤ d) (f t a ru nr nw : Nat) (A M N : PC) (R : Option (List (List (Nat × Nat) × List (Nat × Nat)))) (H : FC h f t a ru nr nw A M R) (HN : MomIs h (f + 6) nr nw N) (e1 : hN h = E1) (e2 : hU h = E2) (k : Q (some (.int (gpF N nr))) h) : ∀ n i : Nat, i + n = nr → Reach d nX2_greatestPurse (4, [.ref f, .int (gpF N i), .int (nI i)], []) h E1 E2 Q
  | 0, i, hi => by
    have : i = nr := by omega
    subst this
    obtain ⟨⟨h0, h1, h2, h3, h4, h5⟩, ⟨c1, c2, c3, c4, c5, c6, c7⟩, d1, d2, d3⟩ := H
    have b1 := c4.2.2.2.1
    refine wX2_greatestPurse_4 hd f _ (nI i) ?_
    simp only [rt_i, rt_b0, rt_b1, rt_v, rt_l, rt_o, rt_a, rV_none, rI_some, rL_some, rR_some, rT_some, rt_bI, hIf_sL, hIf_sR, hS_sI, hS_sL, hS_sR, hS_cpI, hR_sI, hR_sL, hR_cpI, hL_sI, hL_sR, hL_cpI, hI_sL, hI_sR, hN_sI, hN_sL, hN_sR, hN_cpI, hU_sI, hU_sL, hU_sR, hU_cpI, tn0, tn1, tn2, tn3, tn4, tn5, tn6, tn7, tn8, tn9, tn10, tn11, tn12, tn13, tn14, tn15, tn16, tn17, tn18, tn19, tn20, tn21, tn22, tn23, tn24, tn25, tn26, tn27, tn28, tn29, tn30, tn31, tn32, tn33, tn34, tn35, tn36, tn37, tn38, tn39, tn40, tn41, tn42, tn43, tn44, tn45, tn46, tn47, tn48, tn49, tn50, tn51, tn52, tn53, tn54, tn55, tn56, tn57, tn58, tn59, tn60, lH_eq, true_and, and_true, h0, h3, h5, twq_0 c3, hiq_0 c4.1, c4.2.1, nI_le_iff (show i < 2 ^ 31 by omega) (show i < 2 ^ 31 by omega)]
    exact ⟨fun _ => ⟨e1, e2, k⟩, fun z => absurd (Nat.le_refl i) z⟩
  | n + 1, i, hi => by
    have ih := gp_loop hd f t a ru nr nw A M N R H HN e1 e2 k n (i + 1) (by omega)
    obtain ⟨⟨h0, h1, h2, h3, h4, h5⟩, ⟨c1, c2, c3, c4, c5, c6, c7⟩, d1, d2, d3⟩ := H
    have b1 := c4.2.2.2.1
    have p1 : hI h (f + 6 + 2) i = N 2 i := (HN.2.1.2.1 i (by omega)).2.1
    refine wX2_greatestPurse_4 hd f _ (nI i) ?_
    simp only [rt_i, rt_b0, rt_b1, rt_v, rt_l, rt_o, rt_a, rV_none, rI_some, rL_some, rR_some, rT_some, rt_bI, hIf_sL, hIf_sR, hS_sI, hS_sL, hS_sR, hS_cpI, hR_sI, hR_sL, hR_cpI, hL_sI, hL_sR, hL_cpI, hI_sL, hI_sR, hN_sI, hN_sL, hN_sR, hN_cpI, hU_sI, hU_sL, hU_sR, hU_cpI, tn0, tn1, tn2, tn3, tn4, tn5, tn6, tn7, tn8, tn9, tn10, tn11, tn12, tn13, tn14, tn15, tn16, tn17, tn18, tn19, tn20, tn21, tn22, tn23, tn24, tn25, tn26, tn27, tn28, tn29, tn30, tn31, tn32, tn33, tn34, tn35, tn36, tn37, tn38, tn39, tn40, tn41, tn42, tn43, tn44, tn45, tn46, tn47, tn48, tn49, tn50, tn51, tn52, tn53, tn54, tn55, tn56, tn57, tn58, tn59, tn60, lH_eq, true_and, and_true, h0, h2, h3, h5, twq_0 c3, twq_1 c3, twq_2 c3, twq_3 c3, twq_4 c3, twq_5 c3, twq_6 c3, twq_7 c3, twq_8 c3, twq_9 c3, twq_10 c3, moq_0 c2, moq_1 c2, moq_2 c2, moq_3 c2, moq_4 c2, moq_5 c2, moq_6 c2, moq_7 c2, moq_8 c2, moq_9 c2, moq_10 c2, hiq_0 c4.1, c4.2.1, nI_le_iff (show nr < 2 ^ 31 by omega) (show i < 2 ^ 31 by omega), vp_in_nI (show i < 5 by omega) (show 5 < 2 ^ 31 by omega), nI_clamp (show i < 2 ^ 31 by omega), p1, nI_1]
    exact ⟨fun z => absurd z (by omega), fun _ => ih⟩
theorem sp_greatestPurse {d : Nat} {h : AH} {Q : Option Value → AH → Prop} (hd : 5 ≤ d) (f t a ru nr nw : Nat) (A M N : PC) (R : Option (List (List (Nat × Nat) × List (Nat × Nat)))) (H : FC h f t a ru nr nw A M R) (HN : MomIs h (f + 6) nr nw N) (k : Q (some (.int (gpF N nr))) h) : Calls d nX2_greatestPurse [.ref f] h (hN h) (hU h) Q := by
  obtain ⟨e, rfl⟩ : ∃ e, d = e + 1 := ⟨d - 1, by omega⟩
  exact wX2_greatestPurse (by omega) f (gp_loop (by omega) f t a ru nr nw A M N R H HN rfl rfl k nr 0 (by omega))
