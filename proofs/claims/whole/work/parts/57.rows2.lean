/-! the best row, as a value -/
def Rl (days : Nat) (s s' : Int32 × (Nat → Int32)) : Prop := s.1 = s'.1 ∧ (s.1 ≠ -1 → ∀ j, j < days → s.2 j = s'.2 j)
theorem lpF_rel {σ τ : Type} {f : Nat → σ → σ} {g : Nat → τ → τ} {P : σ → τ → Prop} {s : σ} {t : τ} (h0 : P s t) : ∀ n, (∀ i, i < n → ∀ s t, P s t → P (f i s) (g i t)) → P (lpF f n s) (lpF g n t)
  | 0, _ => h0
  | n + 1, h => h n (Nat.lt_succ_self n) _ _ (lpF_rel h0 n (fun i hi => h i (by omega)))
theorem trF_rl (R : Option (List (List (Nat × Nat) × List (Nat × Nat)))) (A : PC) (nr nw r days : Nat) : ∀ (n k : Nat) (N : PC) (ch ch' : Nat → Int32) (s s' : Int32 × (Nat → Int32)), k + n = days → (∀ j, j < k → ch j = ch' j) → Rl days s s' → Rl days (trF R A nr nw r n k N ch s) (trF R A nr nw r n k N ch' s')
  | 0, k, N, ch, ch', s, s', hk, hc, hs => by
    have : k = days := by omega
    subst this
    simp only [trF, ← hs.1]
    split
    · exact ⟨rfl, fun _ j hj => hc j hj⟩
    · exact hs
  | n + 1, k, N, ch, ch', s, s', hk, hc, hs => by
    simp only [trF]
    refine lpF_rel hs (nw + 1) (fun i hi s t hst => ?_)
    split
    · refine trF_rl R A nr nw r days n (k + 1) _ _ _ _ _ (by omega) (fun j hj => ?_) hst
      unfold upd
      split
      · rfl
      · exact hc j (by omega)
    · exact hst
theorem lpF_mono {f : Nat → Int32 × (Nat → Int32) → Int32 × (Nat → Int32)} (h : ∀ i s, s.1.toInt ≤ (f i s).1.toInt) (s : Int32 × (Nat → Int32)) : ∀ n, s.1.toInt ≤ (lpF f n s).1.toInt
  | 0 => Int.le_refl _
  | n + 1 => Int.le_trans (lpF_mono h s n) (h n _)
theorem trF_mono (R : Option (List (List (Nat × Nat) × List (Nat × Nat)))) (A : PC) (nr nw r : Nat) : ∀ (n k : Nat) (N : PC) (ch : Nat → Int32) (s : Int32 × (Nat → Int32)), s.1.toInt ≤ (trF R A nr nw r n k N ch s).1.toInt
  | 0, k, N, ch, s => by
    simp only [trF]
    split
    · rename_i z
      rw [Int32.lt_iff_toInt_lt] at z
      exact Int.le_of_lt z
    · exact Int.le_refl _
  | n + 1, k, N, ch, s => by
    simp only [trF]
    refine lpF_mono (fun i s => ?_) s (nw + 1)
    split
    · exact trF_mono R A nr nw r n (k + 1) _ _ s
    · exact Int.le_refl _
theorem trF_pos (R : Option (List (List (Nat × Nat) × List (Nat × Nat)))) (A : PC) (nr nw r : Nat) (hr : r < nr) (hA : hilOk nr nw A) : ∀ (n k : Nat) (N : PC) (ch : Nat → Int32) (s : Int32 × (Nat → Int32)) (D : Int), D + n ≤ 100000 → momOk D nr nw N → 0 ≤ (trF R A nr nw r n k N ch s).1.toInt
  | 0, k, N, ch, s, D, hD, hN => by
    have h3 := (hN.2.1 r hr).2.2
    simp only [trF]
    split
    · exact h3.1
    · rename_i z
      rw [Int32.lt_iff_toInt_lt] at z
      omega
  | n + 1, k, N, ch, s, D, hD, hN => by
    simp only [trF]
    have key : ∀ m, 0 < m → 0 ≤ (lpF (fun i s => if mrB A (N 0 0) i = true then trF R A nr nw r n (k + 1) (paF R A nr nw (od1 r i) N) (upd ch k (cI i)) s else s) m s).1.toInt := by
      intro m
      induction m with
      | zero => intro z; omega
      | succ m ih =>
        intro _
        have e : lpF (fun i s => if mrB A (N 0 0) i = true then trF R A nr nw r n (k + 1) (paF R A nr nw (od1 r i) N) (upd ch k (cI i)) s else s) (m + 1) s = if mrB A (N 0 0) m = true then trF R A nr nw r n (k + 1) (paF R A nr nw (od1 r m) N) (upd ch k (cI m)) (lpF (fun i s => if mrB A (N 0 0) i = true then trF R A nr nw r n (k + 1) (paF R A nr nw (od1 r i) N) (upd ch k (cI i)) s else s) m s) else lpF (fun i s => if mrB A (N 0 0) i = true then trF R A nr nw r n (k + 1) (paF R A nr nw (od1 r i) N) (upd ch k (cI i)) s else s) m s := rfl
        rw [e]
        by_cases c : m = 0
        · subst c
          rw [if_pos (by simp [mrB])]
          exact trF_pos R A nr nw r hr hA n (k + 1) _ _ _ (D + 1) (by omega) (paF_ok (by omega) hA hN)
        · have := ih (by omega)
          split
          · exact Int.le_trans this (trF_mono R A nr nw r n (k + 1) _ _ _)
          · exact this
    exact key (nw + 1) (by omega)
noncomputable def rowF (R : Option (List (List (Nat × Nat) × List (Nat × Nat)))) (A : PC) (nr nw r n : Nat) (M : PC) : Int32 × (Nat → Int32) := trF R A nr nw r n 0 M (fun _ => 0) (-1, fun _ => 0)
theorem rowF_eq (R : Option (List (List (Nat × Nat) × List (Nat × Nat)))) (A : PC) (nr nw r n : Nat) (M : PC) {D : Int} (hD : D ≤ 50000) (hn : n ≤ 3) (hr : r < nr) (hA : hilOk nr nw A) (hM : momOk D nr nw M) (ch b : Nat → Int32) : (trF R A nr nw r n 0 M ch (-1, b)).1 = (rowF R A nr nw r n M).1 ∧ (∀ j, j < n → (trF R A nr nw r n 0 M ch (-1, b)).2 j = (rowF R A nr nw r n M).2 j) := by
  have h := trF_rl R A nr nw r n n 0 M ch (fun _ => 0) (-1, b) (-1, fun _ => 0) (by omega) (fun j hj => absurd hj (Nat.not_lt_zero j)) ⟨rfl, fun z => absurd rfl z⟩
  have p := trF_pos R A nr nw r hr hA n 0 M ch (-1, b) D (by omega) hM
  refine ⟨h.1, h.2 (fun z => ?_)⟩
  rw [z, t_m1] at p
  omega
theorem sp_bestRow {d : Nat} {h : AH} {Q : Option Value → AH → Prop} (hd : 17 ≤ d) (g t a ru nr nw r n : Nat) (A M : PC) (R : Option (List (List (Nat × Nat) × List (Nat × Nat)))) (wh : Nat) {D : Int} (hD : D ≤ 50000) (hn : n ≤ 3) (hr : r < nr) (hwh : wh ≤ n) (hA : hilOk nr nw A) (hM : momOk D nr nw M) (H : CC h g t a ru nr nw A M R) (ho : ∀ j, j < 5 → hI h (g + 2) j = -2) (h8 : hI h g 8 = -1) (k : ∀ h', Fr' h h' (GB g) → (∀ j, j < 5 → hI h' (g + 2) j = -2) → Q (some (.int (if wh = 0 then (rowF R A nr nw r n M).1 else (rowF R A nr nw r n M).2 (wh - 1)))) h') : Calls d nX0_bestRow [.ref g, .int (nI r), .int (nI n), .int (nI wh)] h (hN h) (hU h) Q := by
  obtain ⟨e, rfl⟩ : ∃ e, d = e + 1 := ⟨d - 1, by omega⟩
  have HC := H
  obtain ⟨⟨h0, h1, h2, h3, h4, h5, h6, h7, h8', h9, h10, h11⟩, ⟨c1, c2, c3, c4, c5, c6, c7, c8, c9, c10⟩, ⟨x1, x2, x3, x4⟩, d1, d2, d3⟩ := H
  have b1 := x2.2.2.2.1
  refine wX0_bestRow (by omega) g (nI r) (nI n) (nI wh) ?_
  simp only [rt_i, rt_b0, rt_b1, rt_v, rt_l, rt_o, rt_a, rV_none, rI_some, rL_some, rR_some, rT_some, rt_bI, hIf_sL, hIf_sR, hS_sI, hS_sL, hS_sR, hS_cpI, hR_sI, hR_sL, hR_cpI, hL_sI, hL_sR, hL_cpI, hI_sL, hI_sR, hN_sI, hN_sL, hN_sR, hN_cpI, hU_sI, hU_sL, hU_sR, hU_cpI, tn0, tn1, tn2, tn3, tn4, tn5, tn6, tn7, tn8, tn9, tn10, tn11, tn12, tn13, tn14, tn15, tn16, tn17, tn18, tn19, tn20, tn21, tn22, tn23, tn24, tn25, tn26, tn27, tn28, tn29, tn30, tn31, tn32, tn33, tn34, tn35, tn36, tn37, tn38, tn39, tn40, tn41, tn42, tn43, tn44, tn45, tn46, tn47, tn48, tn49, tn50, tn51, tn52, tn53, tn54, tn55, tn56, tn57, tn58, tn59, tn60, lH_eq, true_and, and_true, h0, h9, twq_0 x1, twq_1 x1, twq_2 x1, twq_3 x1, twq_4 x1, twq_5 x1, twq_6 x1, twq_7 x1, twq_8 x1, twq_9 x1, twq_10 x1]
  have key := tr_main (d0 := 12) (Nat.le_refl _) g t a ru nr nw r n A M R hn hr n 0 (h := h) (Q := fun r2 h1 => rV r2 ((hS h1 g).1 = 10 + 0 ∧ (hS h1 (hR h1 g 0)).1 = 10 + 1 ∧ (hS h1 (hR h1 (hR h1 g 0) 0)).1 = 1 ∧ vp_in (nI r) (hS h1 (hR h1 (hR h1 g 0) 0)).2 ∧ (¬ nI wh = 0 → (3 < nI wh → hN (sI h1 (hR h1 (hR h1 g 0) 0) (nI r).toNatClampNeg (-2)) = hN h ∧ hU (sI h1 (hR h1 (hR h1 g 0) 0) (nI r).toNatClampNeg (-2)) = hU h ∧ Q (some (.int (-2))) (sI h1 (hR h1 (hR h1 g 0) 0) (nI r).toNatClampNeg (-2))) ∧ (¬ 3 < nI wh → (hS h1 g).1 = 10 + 0 ∧ (hS h1 (hR h1 g 5)).1 = 1 ∧ vp_in (nI wh - 1) (hS h1 (hR h1 g 5)).2 ∧ hN (sI h1 (hR h1 (hR h1 g 0) 0) (nI r).toNatClampNeg (-2)) = hN h ∧ hU (sI h1 (hR h1 (hR h1 g 0) 0) (nI r).toNatClampNeg (-2)) = hU h ∧ Q (some (.int (hI (sI h1 (hR h1 (hR h1 g 0) 0) (nI r).toNatClampNeg (-2)) (hR h1 g 5) (nI wh - 1).toNatClampNeg))) (sI h1 (hR h1 (hR h1 g 0) 0) (nI r).toNatClampNeg (-2)))) ∧ (nI wh = 0 → (hS h1 g).1 = 10 + 0 ∧ hN (sI h1 (hR h1 (hR h1 g 0) 0) (nI r).toNatClampNeg (-2)) = hN h ∧ hU (sI h1 (hR h1 (hR h1 g 0) 0) (nI r).toNatClampNeg (-2)) = hU h ∧ Q (some (.int (hI (sI h1 (hR h1 (hR h1 g 0) 0) (nI r).toNatClampNeg (-2)) g 8))) (sI h1 (hR h1 (hR h1 g 0) 0) (nI r).toNatClampNeg (-2))))) e M (fun _ => 0) (-1, fun j => hI h (g + 25) j) (by omega) (by omega) HC x4 ⟨fun j hj _ => ho j hj, h8, fun _ _ => rfl⟩ (fun j hj => absurd hj (Nat.not_lt_zero j)) (fun h' f q1 q2 => ?_)
  · simp only [rt_i, rt_b0, rt_b1, rt_v, rt_l, rt_o, rt_a, rV_none, rI_some, rL_some, rR_some, rT_some, rt_bI, hIf_sL, hIf_sR, hS_sI, hS_sL, hS_sR, hS_cpI, hR_sI, hR_sL, hR_cpI, hL_sI, hL_sR, hL_cpI, hI_sL, hI_sR, hN_sI, hN_sL, hN_sR, hN_cpI, hU_sI, hU_sL, hU_sR, hU_cpI, tn0, tn1, tn2, tn3, tn4, tn5, tn6, tn7, tn8, tn9, tn10, tn11, tn12, tn13, tn14, tn15, tn16, tn17, tn18, tn19, tn20, tn21, tn22, tn23, tn24, tn25, tn26, tn27, tn28, tn29, tn30, tn31, tn32, tn33, tn34, tn35, tn36, tn37, tn38, tn39, tn40, tn41, tn42, tn43, tn44, tn45, tn46, tn47, tn48, tn49, tn50, tn51, tn52, tn53, tn54, tn55, tn56, tn57, tn58, tn59, tn60, lH_eq, true_and, and_true] at key
    exact key
  · obtain ⟨s1, s2, s3⟩ := q2
    have re := rowF_eq R A nr nw r n M hD hn hr hA hM (fun _ => 0) (fun j => hI h (g + 25) j)
    rw [re.1] at s2
    have fG := f.mono (T := GB g) (fun c z => Gk_GB z)
    have hw0 : (nI wh = 0) = (wh = 0) := nI_eq_iff (b := 0) (by omega) (by decide)
    have hw3 : (3 < nI wh) = (3 < wh) := nI_lt_iff (a := 3) (by decide) (by omega)
    have fF : Fr' h (sI h' (g + 1 + 1) r (-2)) (GB g) := fG.trans (Fr'.sI (by unfold GB; omega))
    have oF : ∀ j, j < 5 → hI (sI h' (g + 1 + 1) r (-2)) (g + 2) j = -2 := fun j hj => by
      rw [hI_sI, if_pos (by omega)]
      by_cases c : j = r
      · rw [if_pos c]
      · rw [if_neg c]; exact s1 j hj c
    simp only [rV_none, rt_i, rt_b0, rt_b1, rt_v, rt_l, rt_o, rt_a, rV_none, rI_some, rL_some, rR_some, rT_some, rt_bI, hIf_sL, hIf_sR, hS_sI, hS_sL, hS_sR, hS_cpI, hR_sI, hR_sL, hR_cpI, hL_sI, hL_sR, hL_cpI, hI_sL, hI_sR, hN_sI, hN_sL, hN_sR, hN_cpI, hU_sI, hU_sL, hU_sR, hU_cpI, tn0, tn1, tn2, tn3, tn4, tn5, tn6, tn7, tn8, tn9, tn10, tn11, tn12, tn13, tn14, tn15, tn16, tn17, tn18, tn19, tn20, tn21, tn22, tn23, tn24, tn25, tn26, tn27, tn28, tn29, tn30, tn31, tn32, tn33, tn34, tn35, tn36, tn37, tn38, tn39, tn40, tn41, tn42, tn43, tn44, tn45, tn46, tn47, tn48, tn49, tn50, tn51, tn52, tn53, tn54, tn55, tn56, tn57, tn58, tn59, tn60, lH_eq, true_and, and_true, f.1, f.2.1, h0, h1, h6, c6, coq_0 c1, coq_1 c1, coq_2 c1, coq_3 c1, coq_4 c1, coq_5 c1, coq_6 c1, coq_7 c1, coq_8 c1, vp_in_nI (show r < 5 by omega) (show 5 < 2 ^ 31 by omega), nI_clamp (show r < 2 ^ 31 by omega), hw0, hw3]
    refine ⟨fun z => ⟨fun y => absurd y (by omega), fun y => ?_⟩, fun z => ?_⟩
    · have e1 : nI wh - 1 = nI (wh - 1) := pk_sub (b := 1) (by omega)
      rw [e1]
      refine ⟨vp_in_nI (by omega) (by decide), fF.2.2.1, fF.2.2.2.1, ?_⟩
      rw [nI_clamp (by omega), hI_sI, if_neg (by omega), s3 _ (by omega), re.2 _ (by omega)]
      have := k _ fF oF
      rwa [if_neg z] at this
    · refine ⟨fF.2.2.1, fF.2.2.2.1, ?_⟩
      rw [hI_sI, if_neg (by omega), s2]
      have := k _ fF oF
      rwa [if_pos z] at this
