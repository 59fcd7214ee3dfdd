/-! the reference reads a hill -/
def NWr (h : AH) (m c nr nw : Nat) (A : PC) : Prop := (0 < c → hI h (m + 15) 0 = A 0 0) ∧ (hI h (m + 15) 1 = nI nr ∧ hI h (m + 15) 2 = nI nw) ∧ (nr ≤ 5 ∧ nw ≤ 6) ∧ (∀ j, j < nr → hI h (m + 16) j = A 1 j ∧ hI h (m + 17) j = A 2 j) ∧ (∀ j, j < nw → hI h (m + 18) j = A 3 j ∧ hI h (m + 19) j = A 4 j ∧ hI h (m + 20) j = A 5 j)
def hwK (k : Nat) : Nat := [12, 0, 1].getD k 0
def hpF (t : Nat → Int32) (n k q nr nw : Nat) (A : PC) : Int32 × Nat × Nat × Nat × PC :=
  if k = 0 then (nbF t n q 1 60 0, nq t n q, nr, nw, setC A 0 0 (tkV t n q))
  else if k = 1 then (nbF t n (nq t n q) 0 40 (nbF t n q 1 20 0), nq t n (nq t n q), nr + 1, nw, setC (setC A 1 nr (tkV t n q)) 2 nr (tkV t n (nq t n q)))
  else (nbF t n (nq t n (nq t n q)) 1 9 (nbF t n (nq t n q) 1 50 (nbF t n q 1 99 0)), nq t n (nq t n (nq t n q)), nr, nw + 1, setC (setC (setC A 3 nw (tkV t n q)) 4 nw (tkV t n (nq t n q))) 5 nw (tkV t n (nq t n (nq t n q))))
abbrev flF (k c nr nw : Nat) : Prop := c = 40 ∨ (k = 0 ∧ c ≠ 0) ∨ (k ≠ 0 ∧ c = 0) ∨ (k = 1 ∧ nr = 5) ∨ (k = 2 ∧ nw = 6)
theorem isWd_ex {t : Nat → Int32} {n q k k' : Nat} (hk : k < 18) (hk' : k' < 18) (h : isWd t n q k) (h' : isWd t n q k') : k = k' := eqW_inj hk hk' h.2 h'.2
theorem hwK_lt : ∀ k, k < 3 → hwK k < 18 := by decide
theorem hcl_found {t : Nat → Int32} {n c q nr nw k : Nat} {A : PC} (hk : k < 3) (hc : c ≤ 40) (h5 : nr ≤ 5) (h6 : nw ≤ 6) (h : isWd t n q (hwK k)) : hclF t n c q nr nw A = if flF k c nr nw then (rfF 0 q 4, q, nr, nw, A) else hpF t n k (nq t n q) nr nw A := by
  have ex : ∀ j, j < 18 → j ≠ hwK k → ¬ isWd t n q j := fun j hj hn z => hn (isWd_ex hj (hwK_lt k hk) z h)
  have : k = 0 ∨ k = 1 ∨ k = 2 := by omega
  unfold hclF
  rcases this with rfl | rfl | rfl
  · have h : isWd t n q 12 := h
    have n0 := ex 0 (by decide) (by decide)
    have n1 := ex 1 (by decide) (by decide)
    by_cases c0 : c = 0
    · rw [if_pos ⟨h, c0⟩, if_neg (by omega)]
      rfl
    · rw [if_neg (fun z => c0 z.2), if_neg (fun z => n0 z.1), if_neg (fun z => n1 z.1), if_pos (Or.inl h), if_pos (Or.inr (Or.inl ⟨rfl, c0⟩))]
  · have h : isWd t n q 0 := h
    have n0 := ex 12 (by decide) (by decide)
    have n1 := ex 1 (by decide) (by decide)
    rw [if_neg (fun z => n0 z.1)]
    by_cases c0 : (0 < c ∧ c < 40) ∧ nr < 5
    · rw [if_pos ⟨h, c0⟩, if_neg (by omega)]
      rfl
    · rw [if_neg (fun z => c0 z.2), if_neg (fun z => n1 z.1), if_pos (Or.inr (Or.inl h)), if_pos (by omega)]
  · have h : isWd t n q 1 := h
    have n0 := ex 12 (by decide) (by decide)
    have n1 := ex 0 (by decide) (by decide)
    rw [if_neg (fun z => n0 z.1), if_neg (fun z => n1 z.1)]
    by_cases c0 : (0 < c ∧ c < 40) ∧ nw < 6
    · rw [if_pos ⟨h, c0⟩, if_neg (by omega)]
      rfl
    · rw [if_neg (fun z => c0 z.2), if_pos (Or.inr (Or.inr h)), if_pos (by omega)]
theorem hcl_none {t : Nat → Int32} {n c q nr nw : Nat} {A : PC} (h0 : ¬ isWd t n q 12) (h1 : ¬ isWd t n q 0) (h2 : ¬ isWd t n q 1) : hclF t n c q nr nw A = (rfF 0 q 0, q, nr, nw, A) := by
  unfold hclF
  rw [if_neg (fun z => h0 z.1), if_neg (fun z => h1 z.1), if_neg (fun z => h2 z.1), if_neg (fun z => z.elim h0 (fun z => z.elim h1 h2))]
theorem m_isFull {d : Nat} {h : AH} {Q : Option Value → AH → Prop} (hd : 5 ≤ d) (m k c nr nw : Nat) (HM : ModAt h m) (hk : k < 3) (hc : c ≤ 40) (h5 : nr ≤ 5) (h6 : nw ≤ 6) (e1 : hI h (m + 15) 1 = nI nr) (e2 : hI h (m + 15) 2 = nI nw) (kk : Q (some (.int (bI (flF k c nr nw)))) h) : Calls d nX12_isFull [.ref m, .int (nI k), .int (nI c)] h (hN h) (hU h) Q := by
  obtain ⟨e, rfl⟩ : ∃ e, d = e + 1 := ⟨d - 1, by omega⟩
  have c40 : (nI c = (40 : Int32)) = (c = 40) := nI_eq_iff (b := 40) (by omega) (by decide)
  have c0 : (nI c = (0 : Int32)) = (c = 0) := nI_eq_iff (b := 0) (by omega) (by decide)
  have r5 : (nI nr = (5 : Int32)) = (nr = 5) := nI_eq_iff (b := 5) (by omega) (by decide)
  have w6 : (nI nw = (6 : Int32)) = (nw = 6) := nI_eq_iff (b := 6) (by omega) (by decide)
  have v1 : vp_in (1 : Int32) 3 := vp_in_nI (n := 1) (N := 3) (by decide) (by decide)
  have v2 : vp_in (2 : Int32) 3 := vp_in_nI (n := 2) (N := 3) (by decide) (by decide)
  have l1 : Int32.toNatClampNeg 1 = 1 := rfl
  have l2 : Int32.toNatClampNeg 2 = 2 := rfl
  have k0 : (nI k = (0 : Int32)) = (k = 0) := nI_eq_iff (b := 0) (by omega) (by decide)
  have k1 : (nI k = (1 : Int32)) = (k = 1) := nI_eq_iff (b := 1) (by omega) (by decide)
  have k2 : (nI k = (2 : Int32)) = (k = 2) := nI_eq_iff (b := 2) (by omega) (by decide)
  have yes : flF k c nr nw → Q (some (.int 1)) h := fun z => by rwa [bI_t z] at kk
  have no : ¬ flF k c nr nw → Q (some (.int 0)) h := fun z => by rwa [bI_f z] at kk
  refine wX12_isFull (by omega) m (nI k) (nI c) ?_
  simp only [rt_i, rt_b0, rt_b1, rt_v, rt_l, rt_o, rt_a, rV_none, rI_some, rL_some, rR_some, rT_some, mdq_0 HM, mdq_15 HM, mds_15 HM, l1, l2, e1, e2, c40, c0, r5, w6, v1, v2, k0, k1, k2, true_and, show ((0 : Int32) = 0) = True from eq_true rfl, show ((0 : Int32) = 1) = False from eq_false (by decide), show ((1 : Int32) = 0) = False from eq_false (by decide), show ((1 : Int32) = 1) = True from eq_true rfl, not_true_eq_false, not_false_eq_true, false_implies, true_implies, and_true]
  grind
