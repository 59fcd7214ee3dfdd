/-! what a hill's text gives is within bounds -/
def hiB (c nr nw : Nat) (A : PC) : Prop := (nr ≤ 5 ∧ nw ≤ 6) ∧ (0 < c → 1 ≤ (A 0 0).toInt ∧ (A 0 0).toInt ≤ 60) ∧ (∀ j, j < nr → (1 ≤ (A 1 j).toInt ∧ (A 1 j).toInt ≤ 20) ∧ (0 ≤ (A 2 j).toInt ∧ (A 2 j).toInt ≤ 40)) ∧ (∀ j, j < nw → (1 ≤ (A 3 j).toInt ∧ (A 3 j).toInt ≤ 99) ∧ (1 ≤ (A 4 j).toInt ∧ (A 4 j).toInt ≤ 50) ∧ (1 ≤ (A 5 j).toInt ∧ (A 5 j).toInt ≤ 9))
theorem le_toI {a b : Int32} (h : a ≤ b) : a.toInt ≤ b.toInt := Int32.le_iff_toInt_le.mp h
theorem hcl_ok {t : Nat → Int32} {n c q nr nw : Nat} {A : PC} (hn : n ≤ 400) (hq : q ≤ n) (H : hiB c nr nw A) (z : (hclF t n c q nr nw A).1 = 0) : hiB (c + 1) (hclF t n c q nr nw A).2.2.1 (hclF t n c q nr nw A).2.2.2.1 (hclF t n c q nr nw A).2.2.2.2 := by
  have q1 := nq_le (t := t) hq
  have q2 := nq_le (t := t) q1.2
  have q3 := nq_le (t := t) q2.2
  obtain ⟨⟨h1, h2⟩, h3, h4, h5⟩ := H
  unfold hclF at z ⊢
  by_cases c1 : isWd t n q 12 ∧ c = 0
  · rw [if_pos c1] at z ⊢
    obtain ⟨-, -, l1, l2⟩ := nbF_0 (by omega) z
    have l1 := le_toI l1
    have l2 := le_toI l2
    have e1 : (1 : Int32).toInt = 1 := by decide
    have e2 : (60 : Int32).toInt = 60 := by decide
    refine ⟨⟨h1, h2⟩, fun _ => ?_, fun j hj => ?_, fun j hj => ?_⟩
    · simp only [setC, and_self, if_true]; omega
    · have := h4 j hj
      simpa [setC] using this
    · have := h5 j hj
      simpa [setC] using this
  rw [if_neg c1] at z ⊢
  by_cases c2 : isWd t n q 0 ∧ (0 < c ∧ c < 40) ∧ nr < 5
  · rw [if_pos c2] at z ⊢
    obtain ⟨z1, -, l1, l2⟩ := nbF_0 (by omega) z
    obtain ⟨-, -, l3, l4⟩ := nbF_0 (by omega) z1
    have l1 := le_toI l1
    have l2 := le_toI l2
    have l3 := le_toI l3
    have l4 := le_toI l4
    have e0 : (0 : Int32).toInt = 0 := by decide
    have e1 : (1 : Int32).toInt = 1 := by decide
    have e2 : (20 : Int32).toInt = 20 := by decide
    have e3 : (40 : Int32).toInt = 40 := by decide
    have h3' := h3 c2.2.1.1
    refine ⟨⟨show nr + 1 ≤ 5 from by omega, h2⟩, fun _ => ?_, fun j (hj : j < nr + 1) => ?_, fun j hj => ?_⟩
    · simpa [setC] using h3'
    · by_cases u : j = nr
      · subst u
        simp only [setC, Nat.reduceEqDiff, false_and, and_self, if_true, if_false]
        refine ⟨⟨?_, ?_⟩, ?_, ?_⟩ <;> omega
      · have := h4 j (by omega)
        simpa [setC, u] using this
    · have := h5 j hj
      simpa [setC] using this
  rw [if_neg c2] at z ⊢
  by_cases c3 : isWd t n q 1 ∧ (0 < c ∧ c < 40) ∧ nw < 6
  · rw [if_pos c3] at z ⊢
    obtain ⟨z1, -, l1, l2⟩ := nbF_0 (by omega) z
    obtain ⟨z2, -, l3, l4⟩ := nbF_0 (by omega) z1
    obtain ⟨-, -, l5, l6⟩ := nbF_0 (by omega) z2
    have l1 := le_toI l1
    have l2 := le_toI l2
    have l3 := le_toI l3
    have l4 := le_toI l4
    have l5 := le_toI l5
    have l6 := le_toI l6
    have e1 : (1 : Int32).toInt = 1 := by decide
    have e2 : (99 : Int32).toInt = 99 := by decide
    have e3 : (50 : Int32).toInt = 50 := by decide
    have e4 : (9 : Int32).toInt = 9 := by decide
    have h3' := h3 c3.2.1.1
    refine ⟨⟨h1, show nw + 1 ≤ 6 from by omega⟩, fun _ => ?_, fun j hj => ?_, fun j (hj : j < nw + 1) => ?_⟩
    · simpa [setC] using h3'
    · have := h4 j hj
      simpa [setC] using this
    · by_cases u : j = nw
      · subst u
        simp only [setC, Nat.reduceEqDiff, false_and, and_self, if_true, if_false]
        refine ⟨⟨?_, ?_⟩, ⟨?_, ?_⟩, ?_, ?_⟩ <;> omega
      · have := h5 j (by omega)
        simpa [setC, u] using this
  rw [if_neg c3] at z
  exact absurd z (rfF_ne (fa := 0) (q := q) (by omega) (by split <;> omega))
theorem hr_ok {t : Nat → Int32} {n : Nat} (hn : n ≤ 400) : ∀ (f c q nr nw : Nat) (A : PC), c + f = 41 → q ≤ n → hiB c nr nw A → (hrF t n f c q nr nw A).1 = 0 → hilOk (hrF t n f c q nr nw A).2.1 (hrF t n f c q nr nw A).2.2.1 (hrF t n f c q nr nw A).2.2.2
  | 0, c, q, nr, nw, A, hc, hq, H, z => ⟨H.1.1, H.1.2, H.2.1 (by omega), H.2.2.1, H.2.2.2⟩
  | f + 1, c, q, nr, nw, A, hc, hq, H, z => by
    have hl := hclF_le (c := c) (nr := nr) (nw := nw) (A := A) (t := t) hq
    have ho := hcl_ok (t := t) hn hq H
    unfold hrF at z ⊢
    generalize hclF t n c q nr nw A = R at *
    by_cases c1 : R.1 = 0
    · have c1' : ¬ R.1 ≠ 0 := fun y => y c1
      rw [if_neg c1'] at z ⊢
      have o := ho c1
      by_cases c2 : tkK t n R.2.1 = 3 ∧ tkV t n R.2.1 = 59
      · rw [if_pos c2] at z ⊢
        exact hr_ok hn f (c + 1) _ _ _ _ (by omega) (nq_le hl).2 o z
      · rw [if_neg c2] at z ⊢
        by_cases c3 : tkK t n R.2.1 = 0
        · rw [if_pos c3] at z ⊢
          exact ⟨o.1.1, o.1.2, o.2.1 (by omega), o.2.2.1, o.2.2.2⟩
        · rw [if_neg c3] at z
          exact absurd z (rfF_ne (fa := 0) (q := R.2.1) (c := 0) (by omega) (by omega))
    · rw [if_pos c1] at z
      exact absurd z c1
theorem hl_ok {t : Nat → Int32} {n : Nat} (hn : n ≤ 400) (z : (hlF t n).1 = 0) : hilOk (hlF t n).2.1 (hlF t n).2.2.1 (hlF t n).2.2.2 :=
  hr_ok hn 41 0 (sk t n 0) 0 0 A1P rfl (ru_le (by omega)) ⟨⟨by omega, by omega⟩, fun h => absurd h (by omega), fun j hj => absurd hj (Nat.not_lt_zero j), fun j hj => absurd hj (Nat.not_lt_zero j)⟩ z
def tpF (tp : List Int32) : Nat → Int32 := fun i => tp.getD i 0
def oHill (T : TW) (tp : List Int32) : Int32 × TW := if (hlF (tpF tp) tp.length).1 = 0 then (nI (hlF (tpF tp) tp.length).2.1, ((hlF (tpF tp) tp.length).2.1, (hlF (tpF tp) tp.length).2.2.1, (hlF (tpF tp) tp.length).2.2.2, T.2.2.2.1, T.2.2.2.2.1, begM (hlF (tpF tp) tp.length).2.2.2, [], [])) else (-2 - (hlF (tpF tp) tp.length).1, T)
theorem HRd.is {h : AH} {a nr nw : Nat} {A : PC} (H : HRd h a nr nw A) (ok : hilOk nr nw A) : HilIs h a nr nw A := by
  obtain ⟨h0, ⟨h1, h2, h3⟩, ⟨h4, h5⟩, h6, h7⟩ := H
  refine ⟨h0, h2, h3, h4, h5, ⟨h1, fun j hj => (h7 j hj).2⟩, h6, fun j hj => (h7 j hj).1, fun j hj => ?_⟩
  have := (ok.2.2.2.2 j hj).2.1.1
  rw [Int32.lt_iff_toInt_lt]
  have e0 : (0 : Int32).toInt = 0 := by decide
  omega
theorem cTx.txs {h : AH} {x : Nat} {tp : List Int32} (H : cTx h x tp) : TxS h (x + 2) tp.length (tpF tp) := by
  obtain ⟨t1, t2, t3, t4, t5, t6⟩ := H
  refine ⟨t2, t1, t4, t3, t5, fun i hi => ?_⟩
  have e : tp[i]? = some (tp[i]'hi) := List.getElem?_eq_getElem hi
  have := t6 i _ e
  show hI h (x + 3) i = tpF tp i
  rw [this]
  unfold tpF
  simp [List.getD, e]
set_option maxHeartbeats 4000000 in
theorem sp_Hinit {d : Nat} {h : AH} {Q : Option Value → AH → Prop} (hd : 5 ≤ d) (a : Nat) (hs : hS h a = (13, 8)) (hn : hN h = a + 1) (k : ∀ h', FrG h h' (fun b => b = a) → hN h' = a + 6 → hU h' = hU h + 28 → HRd h' a 0 0 A1P → Q none h') : Calls d nX3_init [.ref a] h (a + 6) (hU h + 28) Q := by
  obtain ⟨e, rfl⟩ : ∃ e, d = e + 1 := ⟨d - 1, by omega⟩
  refine wX3_init (E1 := a + 6) (E2 := hU h + 28) (by omega) (by omega) (by omega) a ?_
  simp only [rt_i, rt_b0, rt_b1, rt_v, rt_l, rt_o, rt_a, rV_none, rI_some, rL_some, rR_some, rT_some, rt_bI, hIf_sL, hIf_sR, hS_sI, hS_sL, hS_sR, hS_cpI, hR_sI, hR_sL, hR_cpI, hL_sI, hL_sR, hL_cpI, hI_sL, hI_sR, hN_sI, hN_sL, hN_sR, hN_cpI, hU_sI, hU_sL, hU_sR, hU_cpI, tn0, tn1, tn2, tn3, tn4, tn5, tn6, tn7, tn8, tn9, tn10, tn11, tn12, tn13, tn14, tn15, tn16, tn17, tn18, tn19, tn20, tn21, tn22, tn23, tn24, tn25, tn26, tn27, tn28, tn29, tn30, tn31, tn32, tn33, tn34, tn35, tn36, tn37, tn38, tn39, tn40, tn41, tn42, tn43, tn44, tn45, tn46, tn47, tn48, tn49, tn50, tn51, tn52, tn53, tn54, tn55, tn56, tn57, tn58, tn59, tn60, lH_eq, true_and, and_true, hs, hn, hN_nC, hU_nC, hS_nC, show ¬ (5 : Int32) < 0 by decide, show ¬ (6 : Int32) < 0 by decide, not_false_eq_true, show ¬ a = a + 1 by omega, show ¬ a = a + 1 + 1 by omega, show ¬ a = a + 1 + 1 + 1 by omega, show ¬ a = a + 1 + 1 + 1 + 1 by omega, show ¬ a = a + 1 + 1 + 1 + 1 + 1 by omega, if_false]
  repeat refine ⟨by first | decide | omega, ?_⟩
  refine k _ ?_ ?_ ?_ ⟨?_, ⟨?_, ?_, ?_⟩, ⟨by omega, by omega⟩, fun j hj => absurd hj (Nat.not_lt_zero j), fun j hj => absurd hj (Nat.not_lt_zero j)⟩
  · refine frg_sR (frg_nC (frg_sR (frg_nC (frg_sR (frg_nC (frg_sR (frg_nC (frg_sR (frg_nC (frg_sI (frg_sI (frg_sI (FrG.refl _ _) ?_) ?_) ?_)) ?_)) ?_)) ?_)) ?_)) ?_ <;> exact fun _ => rfl
  · simp only [hS_sI, hS_sL, hS_sR, hS_cpI, hR_sI, hR_sL, hR_cpI, hL_sI, hL_sR, hL_cpI, hI_sL, hI_sR, hN_sI, hN_sL, hN_sR, hN_cpI, hU_sI, hU_sL, hU_sR, hU_cpI, hN_nC, hn]
  · simp only [hS_sI, hS_sL, hS_sR, hS_cpI, hR_sI, hR_sL, hR_cpI, hL_sI, hL_sR, hL_cpI, hI_sL, hI_sR, hN_sI, hN_sL, hN_sR, hN_cpI, hU_sI, hU_sL, hU_sR, hU_cpI, hU_nC]
  · simp only [HillAt, hS_sI, hS_sL, hS_sR, hS_cpI, hR_sI, hR_sL, hR_cpI, hL_sI, hL_sR, hL_cpI, hI_sL, hI_sR, hN_sI, hN_sL, hN_sR, hN_cpI, hU_sI, hU_sL, hU_sR, hU_cpI, hS_nC, hR_sR, hR_nC, hN_nC, hn, hs]
    grind
  · show _ = (1 : Int32)
    simp only [hS_sI, hS_sL, hS_sR, hS_cpI, hR_sI, hR_sL, hR_cpI, hL_sI, hL_sR, hL_cpI, hI_sL, hI_sR, hN_sI, hN_sL, hN_sR, hN_cpI, hU_sI, hU_sL, hU_sR, hU_cpI, hI_sI, hI_nC, hN_nC, hn]
    grind
  · show _ = (0 : Int32)
    simp only [hS_sI, hS_sL, hS_sR, hS_cpI, hR_sI, hR_sL, hR_cpI, hL_sI, hL_sR, hL_cpI, hI_sL, hI_sR, hN_sI, hN_sL, hN_sR, hN_cpI, hU_sI, hU_sL, hU_sR, hU_cpI, hI_sI, hI_nC, hN_nC, hn]
    grind
  · show _ = (0 : Int32)
    simp only [hS_sI, hS_sL, hS_sR, hS_cpI, hR_sI, hR_sL, hR_cpI, hL_sI, hL_sR, hL_cpI, hI_sL, hI_sR, hN_sI, hN_sL, hN_sR, hN_cpI, hU_sI, hU_sL, hU_sR, hU_cpI, hI_sI, hI_nC, hN_nC, hn]
    grind
