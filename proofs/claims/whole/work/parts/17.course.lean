/-! the course of a day, what needs no rule -/
def oI (o : Option Nat) : Int32 := match o with
  | none => -1
  | some n => nI n
theorem nI_ne_m1 {n : Nat} (h : n < 2 ^ 31) : ¬ nI n = -1 := fun e => by
  have h1 := nI_toInt h
  rw [e] at h1
  have h2 : (-1 : Int32).toInt = -1 := by decide
  omega
theorem nI_eq_iff {a b : Nat} (ha : a < 2 ^ 31) (hb : b < 2 ^ 31) : (nI a = nI b) = (a = b) := propext (nI_eq ha hb)
theorem nI_lt_iff {a b : Nat} (ha : a < 2 ^ 31) (hb : b < 2 ^ 31) : (nI a < nI b) = (a < b) := propext (nI_ltI ha hb)
theorem sp_daysTillFeast {d : Nat} {h : AH} {Q : Option Value → AH → Prop} (hd : 5 ≤ d) (a : Nat) (day : Int32) (H : HillAt h a) (k : Q (some (.int (if 0 < hI h a 0 then hI h a 0 - 1 - irm day (hI h a 0) else 0))) h) : Calls d nX3_daysTillFeast [.ref a, .int day] h (hN h) (hU h) Q := by
  obtain ⟨e, rfl⟩ : ∃ e, d = e + 1 := ⟨d - 1, by omega⟩
  obtain ⟨s0, -⟩ := H
  refine wX3_daysTillFeast (by omega) a day ?_
  simp only [rt_i, rt_b0, rt_b1, rt_v, rt_l, rt_o, rt_a, rV_none, rI_some, rL_some, rR_some, rT_some, true_and, s0, irm_eq]
  refine ⟨fun h1 => ?_, fun h1 => ⟨fun z => ?_, ?_⟩⟩
  · rwa [if_neg (Int32.not_lt.mpr h1)] at k
  · rw [z] at h1; exact h1 (by decide)
  · rwa [if_pos (i32_lt_of h1)] at k
theorem sp_canLend {d : Nat} {h : AH} {Q : Option Value → AH → Prop} (hd : 5 ≤ d) (a r s : Nat) (x : Int32) (H : MomAt h a) (hr : r < 5) (hs : s < 5) (k : Q (some (.int (bI (-99 ≤ hI h (a + 2) r - x ∧ hI h (a + 2) s + x ≤ 99)))) h) : Calls d nX4_canLend [.ref a, .int (nI r), .int (nI s), .int x] h (hN h) (hU h) Q := by
  obtain ⟨e, rfl⟩ : ∃ e, d = e + 1 := ⟨d - 1, by omega⟩
  obtain ⟨s0, r1, r2, r3, r4, r5, s1, s2, s3, s4, s5⟩ := H
  have hv : vp_in (nI r) 5 := vp_in_nI hr (by decide)
  have hw : vp_in (nI s) 5 := vp_in_nI hs (by decide)
  have hc : (nI r).toNatClampNeg = r := nI_clamp (by omega)
  have hc2 : (nI s).toNatClampNeg = s := nI_clamp (by omega)
  refine wX4_canLend (by omega) a (nI r) (nI s) x ?_
  simp only [rt_i, rt_b0, rt_b1, rt_v, rt_l, rt_o, rt_a, rV_none, rI_some, rL_some, rR_some, rT_some, true_and, s0, r2, s2, hc, hc2, hv, hw]
  refine ⟨fun h1 => ?_, fun h1 => ⟨fun h2 => ?_, fun h2 => ?_⟩⟩
  · rwa [bI_f (fun z => absurd z.1 (Int32.not_le.mpr h1))] at k
  · rwa [bI_f (fun z => absurd z.2 (Int32.not_le.mpr h2))] at k
  · rwa [bI_t ⟨i32_le_of h1, i32_le_of h2⟩] at k
/-- seconds go from one to another -/
def gvF (pu : Nat → Int32) (r s : Nat) (x : Int32) : Nat → Int32 := fun j => if j = s then (if s = r then pu r - x else pu s) + x else if j = r then pu r - x else pu j
theorem sp_give {d : Nat} {h : AH} {Q : Option Value → AH → Prop} (hd : 5 ≤ d) (a r s : Nat) (x : Int32) (H : MomAt h a) (hr : r < 5) (hs : s < 5) (k : ∀ h', Fr' h h' (fun b => b = a + 2) → (∀ j, hI h' (a + 2) j = gvF (hI h (a + 2)) r s x j) → Q none h') : Calls d nX4_give [.ref a, .int (nI r), .int (nI s), .int x] h (hN h) (hU h) Q := by
  obtain ⟨e, rfl⟩ : ∃ e, d = e + 1 := ⟨d - 1, by omega⟩
  obtain ⟨s0, r1, r2, r3, r4, r5, s1, s2, s3, s4, s5⟩ := H
  have hv : vp_in (nI r) 5 := vp_in_nI hr (by decide)
  have hw : vp_in (nI s) 5 := vp_in_nI hs (by decide)
  have hc : (nI r).toNatClampNeg = r := nI_clamp (by omega)
  have hc2 : (nI s).toNatClampNeg = s := nI_clamp (by omega)
  refine wX4_give (by omega) a (nI r) (nI s) x ?_
  simp only [rt_i, rt_b0, rt_b1, rt_v, rt_l, rt_o, rt_a, rV_none, rI_some, rL_some, rR_some, rT_some, hS_sI, hS_sL, hS_sR, hS_cpI, hR_sI, hR_sL, hR_cpI, hL_sI, hL_sR, hL_cpI, hI_sL, hI_sR, hN_sI, hN_sL, hN_sR, hN_cpI, hU_sI, hU_sL, hU_sR, hU_cpI, lH_eq, true_and, s0, r2, s2, hc, hc2, hv, hw]
  refine k _ ((Fr'.sI (S := fun b => b = a + 2) rfl).trans (Fr'.sI rfl)) (fun j => ?_)
  simp only [hI_sI, gvF, if_true]
/-- the ware most worth of those that are there -/
def mwF (wo ev : Nat → Int32) (day : Int32) : Nat → Option Nat
  | 0 => none
  | n + 1 => match mwF wo ev day n with
    | none => if 0 < ev n ∧ irm day (ev n) = 0 then some n else none
    | some b => if (0 < ev n ∧ irm day (ev n) = 0) ∧ wo b < wo n then some n else some b
theorem mwF_lt (wo ev : Nat → Int32) (day : Int32) : ∀ (n b : Nat), mwF wo ev day n = some b → b < n
  | 0, b, h => by cases h
  | n + 1, b, h => by
    unfold mwF at h
    split at h
    · split at h
      · cases h; omega
      · cases h
    · rename_i b' hb
      have := mwF_lt wo ev day n b' hb
      split at h <;> cases h <;> omega
theorem mw_loop {d E1 E2 : Nat} {h : AH} {Q : Option Value → AH → Prop} (hd : 5 ≤ d) (a nw : Nat) (day : Int32) (H : HillAt h a) (hn : hI h a 2 = nI nw) (hw : nw ≤ 6) (e1 : hN h = E1) (e2 : hU h = E2) (k : Q (some (.int (oI (mwF (hI h (a + 4)) (hI h (a + 5)) day nw)))) h) : ∀ (m i : Nat), i + m = nw → Reach d nX1_mostWorth (4, [.ref a, .int day, .int (oI (mwF (hI h (a + 4)) (hI h (a + 5)) day i)), .int (nI i)], []) h E1 E2 Q
  | 0, i, hi => by
    obtain ⟨s0, -⟩ := H
    refine wX1_mostWorth_4 (by omega) a day _ (nI i) ⟨by rw [s0], fun _ => ?_, fun z => absurd (by rw [hn]; exact nI_le (by omega) (by omega)) z⟩
    rw [rt_i]
    have : i = nw := by omega
    subst this
    exact ⟨e1, e2, k⟩
  | m + 1, i, hi => by
    have ih := mw_loop hd a nw day H hn hw e1 e2 k m (i + 1) (by omega)
    have Hh := H
    obtain ⟨s0, r3, r4, r5, r6, r7, s1, s2, s3, s4, s5⟩ := H
    have hv : vp_in (nI i) 6 := vp_in_nI (by omega) (by decide)
    have hc : (nI i).toNatClampNeg = i := nI_clamp (by omega)
    refine wX1_mostWorth_4 (by omega) a day _ (nI i) ⟨by rw [s0], fun z => absurd (by rw [hn] at z; exact z) (nI_ge (by omega) (by omega)), fun _ => ⟨by rw [s0], ?_⟩⟩
    refine sp_isThere hd a i day Hh (by omega) ?_
    rw [rI_some, bI0]
    have hs : mwF (hI h (a + 4)) (hI h (a + 5)) day (i + 1) = match mwF (hI h (a + 4)) (hI h (a + 5)) day i with
      | none => if 0 < hI h (a + 5) i ∧ irm day (hI h (a + 5) i) = 0 then some i else none
      | some b => if (0 < hI h (a + 5) i ∧ irm day (hI h (a + 5) i) = 0) ∧ hI h (a + 4) b < hI h (a + 4) i then some i else some b := rfl
    rw [hs, ← nI_1] at ih
    cases hb : mwF (hI h (a + 4)) (hI h (a + 5)) day i with
    | none =>
      rw [hb] at ih
      simp only at ih
      refine ⟨fun h1 => ?_, fun h1 => ⟨fun _ => ?_, fun z => absurd rfl z⟩⟩
      · rwa [if_neg h1] at ih
      · rwa [if_pos (Decidable.not_not.mp h1)] at ih
    | some b =>
      have hbl := mwF_lt _ _ _ _ _ hb
      have hvb : vp_in (nI b) 6 := vp_in_nI (by omega) (by decide)
      have hcb : (nI b).toNatClampNeg = b := nI_clamp (by omega)
      rw [hb] at ih
      simp only at ih
      refine ⟨fun h1 => ?_, fun h1 => ⟨fun z => absurd z (nI_ne_m1 (by omega)), fun _ => ?_⟩⟩
      · rwa [if_neg (fun z => h1 z.1)] at ih
      · simp only [oI, s0, r6, s4, hv, hvb, hc, hcb, true_and]
        refine ⟨fun h2 => ?_, fun h2 => ?_⟩
        · rwa [if_neg (fun z => absurd z.2 (Int32.not_lt.mpr h2))] at ih
        · rwa [if_pos ⟨Decidable.not_not.mp h1, i32_lt_of h2⟩] at ih
theorem sp_mostWorth {d : Nat} {h : AH} {Q : Option Value → AH → Prop} (hd : 6 ≤ d) (a nw : Nat) (day : Int32) (H : HillAt h a) (hn : hI h a 2 = nI nw) (hw : nw ≤ 6) (k : Q (some (.int (oI (mwF (hI h (a + 4)) (hI h (a + 5)) day nw)))) h) : Calls d nX1_mostWorth [.ref a, .int day] h (hN h) (hU h) Q := by
  obtain ⟨e, rfl⟩ : ∃ e, d = e + 1 := ⟨d - 1, by omega⟩
  exact wX1_mostWorth (by omega) a day (mw_loop (by omega) a nw day H hn hw rfl rfl k nw 0 (by omega))
