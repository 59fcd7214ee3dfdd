/-! choices: 0 is none, i + 1 is ware i -/
def cI (i : Nat) : Int32 := nI i - 1
theorem cI_0 : cI 0 = -1 := by decide
theorem cI_s (i : Nat) : cI (i + 1) = nI i := nI_sub1 i
theorem cI_1 (i : Nat) : cI i + 1 = nI i := by unfold cI; grind
theorem cI_up (i : Nat) : cI i + 1 = cI (i + 1) := by rw [cI_1, cI_s]
theorem cI_toInt {i : Nat} (h : i < 1000) : (cI i).toInt = (i : Int) - 1 := pk_sub_toInt (a := i) (b := 1) (by omega) (by decide)
theorem cI_ge {i n : Nat} (hi : i < 1000) (hn : n < 1000) : (nI n ≤ cI i) = (n < i) := by
  rw [Int32.le_iff_toInt_le, cI_toInt hi, nI_toInt (by omega)]
  apply propext
  omega
theorem cI_m1 {i : Nat} (hi : i < 1000) : (cI i = -1) = (i = 0) := by
  rw [← Int32.toInt_inj, cI_toInt hi, t_m1]
  apply propext
  omega
theorem cI_m2 {i : Nat} (hi : i < 1000) : cI i ≠ -2 := by
  intro z
  rw [← Int32.toInt_inj, cI_toInt hi, show (-2 : Int32).toInt = -2 by decide] at z
  omega
theorem cI_m5 {i : Nat} (hi : i < 1000) : cI i ≠ -5 := by
  intro z
  rw [← Int32.toInt_inj, cI_toInt hi, show (-5 : Int32).toInt = -5 by decide] at z
  omega
def mrB (A : PC) (day : Int32) (i : Nat) : Bool := i == 0 || thB (A 5) day (i - 1)
def GB (g : Nat) : Nat → Prop := fun c => c = g ∨ (g + 2 ≤ c ∧ c ≤ g + 41)
def CC (h : AH) (g t a ru nr nw : Nat) (A M : PC) (R : Option (List (List (Nat × Nat) × List (Nat × Nat)))) : Prop := (hS h g = (10, 11) ∧ hR h g 0 = g + 1 ∧ hR h g 1 = g + 6 ∧ hR h g 2 = g + 12 ∧ hR h g 3 = g + 18 ∧ hR h g 4 = g + 24 ∧ hR h g 5 = g + 25 ∧ hR h g 6 = g + 26 ∧ hR h g 7 = g + 34 ∧ hR h g 9 = t ∧ hR h g 10 = ru ∧ hR h t 0 = a) ∧ (CouAt h (g + 1) ∧ MomAt h (g + 6) ∧ MomAt h (g + 12) ∧ MomAt h (g + 18) ∧ hS h (g + 24) = (1, 3) ∧ hS h (g + 25) = (1, 3) ∧ hS h (g + 26) = (8, 7) ∧ hS h (g + 34) = (8, 7) ∧ (∀ i, i < 7 → hR h (g + 26) i = g + 27 + i ∧ hS h (g + 27 + i) = (1, 7)) ∧ (∀ i, i < 7 → hR h (g + 34) i = g + 35 + i ∧ hS h (g + 35 + i) = (1, 7))) ∧ (TwnAt h t ∧ HilIs h a nr nw A ∧ RuIs h ru R ∧ MomIs h (t + 1) nr nw M) ∧ (g + 42 ≤ a ∨ a + 6 ≤ g) ∧ (g + 42 ≤ t ∨ t + 11 ≤ g) ∧ (ru ≠ 0 → g + 42 ≤ ru ∨ ru + 3 ≤ g)
theorem CC.fr {h h' : AH} {g t a ru nr nw : Nat} {A M : PC} {R : Option (List (List (Nat × Nat) × List (Nat × Nat)))} (H : CC h g t a ru nr nw A M R) (f : Fr' h h' (GB g)) : CC h' g t a ru nr nw A M R := by
  obtain ⟨⟨h0, h1, h2, h3, h4, h5, h6, h7, h8, h9, h10, h11⟩, ⟨c1, c2, c3, c4, c5, c6, c7, c8, c9, c10⟩, ⟨x1, x2, x3, x4⟩, d1, d2, d3⟩ := H
  have b1 := x2.2.2.2.1
  have b2 := x2.2.2.2.2.1
  refine ⟨⟨?_, ?_, ?_, ?_, ?_, ?_, ?_, ?_, ?_, ?_, ?_, ?_⟩, ⟨c1.fr f, c2.fr f, c3.fr f, c4.fr f, ?_, ?_, ?_, ?_, fun i hi => ?_, fun i hi => ?_⟩, ⟨x1.fr f, x2.fr f (fun b z1 z2 z => by unfold GB at z; omega), x3.fr f (fun z => ?_), x4.fr b1 b2 f (fun b z1 z2 z => by unfold GB at z; omega)⟩, d1, d2, d3⟩
  all_goals try (simp only [f.1, f.2.1]; assumption)
  · rw [f.1, f.2.1]; exact c9 i hi
  · rw [f.1, f.2.1]; exact c10 i hi
  · have := d3 z
    unfold GB
    omega
theorem sp_mayRunFor {d : Nat} {h : AH} {Q : Option Value → AH → Prop} (hd : 6 ≤ d) (g t a ru nr nw i : Nat) (A M : PC) (R : Option (List (List (Nat × Nat) × List (Nat × Nat)))) (day : Int32) (H : CC h g t a ru nr nw A M R) (hi : i ≤ nw) (k : Q (some (.int (bI (mrB A day i = true)))) h) : Calls d nX0_mayRunFor [.ref g, .int (cI i), .int day] h (hN h) (hU h) Q := by
  obtain ⟨e, rfl⟩ : ∃ e, d = e + 1 := ⟨d - 1, by omega⟩
  obtain ⟨⟨h0, h1, h2, h3, h4, h5, h6, h7, h8, h9, h10, h11⟩, ⟨c1, c2, c3, c4, c5, c6, c7, c8, c9, c10⟩, ⟨x1, x2, x3, x4⟩, d1, d2, d3⟩ := H
  have b2 := x2.2.2.2.2.1
  refine wX0_mayRunFor (by omega) g (cI i) day ?_
  simp only [rt_i, rt_b0, rt_b1, rt_v, rt_l, rt_o, rt_a, rV_none, rI_some, rL_some, rR_some, rT_some, rt_bI, hIf_sL, hIf_sR, hS_sI, hS_sL, hS_sR, hS_cpI, hR_sI, hR_sL, hR_cpI, hL_sI, hL_sR, hL_cpI, hI_sL, hI_sR, hN_sI, hN_sL, hN_sR, hN_cpI, hU_sI, hU_sL, hU_sR, hU_cpI, tn0, tn1, tn2, tn3, tn4, tn5, tn6, tn7, tn8, tn9, tn10, tn11, tn12, tn13, tn14, tn15, tn16, tn17, tn18, tn19, tn20, tn21, tn22, tn23, tn24, tn25, tn26, tn27, tn28, tn29, tn30, tn31, tn32, tn33, tn34, tn35, tn36, tn37, tn38, tn39, tn40, tn41, tn42, tn43, tn44, tn45, tn46, tn47, tn48, tn49, tn50, tn51, tn52, tn53, tn54, tn55, tn56, tn57, tn58, tn59, tn60, lH_eq, true_and, and_true, h0, h9, h11, twq_0 x1, hiq_0 x2.1, cI_m1 (show i < 1000 by omega)]
  refine ⟨fun z => ?_, fun z => ?_⟩
  · rwa [bI_t (by simp [mrB, z])] at k
  · obtain ⟨w, rfl⟩ : ∃ w, i = w + 1 := ⟨i - 1, by omega⟩
    rw [cI_s]
    refine sp_isThere (by omega) a w day x2.1 (by omega) ?_
    have e5 : hI h (a + 5) w = A 5 w := (x2.2.2.2.2.2.1.2 w (by omega)).2
    have hm : (mrB A day (w + 1) = true) = (0 < A 5 w ∧ irm day (A 5 w) = 0) := by
      simp only [mrB, Nat.add_sub_cancel]
      rw [← thB_t]
      simp
    simp only [rI_some, bI0, e5, true_and]
    simp only [hm] at k
    refine ⟨fun y => ?_, fun y => ?_⟩
    · rwa [bI_f y] at k
    · rwa [bI_t (Decidable.not_not.mp y)] at k
/-- the day with an order for one -/
def od1 (r i : Nat) : Nat → Option Int32 := fun j => if j = r then some (cI i) else none
def lpF {σ : Type} (f : Nat → σ → σ) : Nat → σ → σ
  | 0, s => s
  | n + 1, s => f n (lpF f n s)
noncomputable def trF (R : Option (List (List (Nat × Nat) × List (Nat × Nat)))) (A : PC) (nr nw r : Nat) : Nat → Nat → PC → (Nat → Int32) → Int32 × (Nat → Int32) → Int32 × (Nat → Int32)
  | 0, _, N, ch, s => if s.1 < N 3 r then (N 3 r, ch) else s
  | n + 1, k, N, ch, s => lpF (fun i s => if mrB A (N 0 0) i = true then trF R A nr nw r n (k + 1) (paF R A nr nw (od1 r i) N) (upd ch k (cI i)) s else s) (nw + 1) s
def Gk (g k : Nat) : Nat → Prop := fun c => c = g ∨ (g + 2 ≤ c ∧ c ≤ g + 5) ∨ (g + 6 + 6 * k ≤ c ∧ c ≤ g + 25)
theorem Gk_GB {g k c : Nat} (z : Gk g k c) : GB g c := by
  unfold Gk at z
  unfold GB
  omega
def faM (g t k : Nat) : Nat := if k = 0 then t + 1 else g + 6 * k
/-- what the rows stand on -/
def TrS (h : AH) (g r nr days : Nat) (s : Int32 × (Nat → Int32)) : Prop := (∀ j, j < 5 → j ≠ r → hI h (g + 2) j = -2) ∧ hI h g 8 = s.1 ∧ (∀ j, j < days → hI h (g + 25) j = s.2 j)
theorem sp_weighRow {d : Nat} {h : AH} {Q : Option Value → AH → Prop} (hd : 5 ≤ d) (g t a ru nr nw r days : Nat) (A M : PC) (R : Option (List (List (Nat × Nat) × List (Nat × Nat)))) (v : Int32) (ch : Nat → Int32) (s : Int32 × (Nat → Int32)) (hd3 : days ≤ 3) (H : CC h g t a ru nr nw A M R) (HS : TrS h g r nr days s) (hch : ∀ j, j < days → hI h (g + 24) j = ch j) (k : ∀ h', Fr' h h' (fun c => c = g ∨ c = g + 25) → TrS h' g r nr days (if s.1 < v then (v, ch) else s) → Q none h') : Calls d nX0_weighRow [.ref g, .int v] h (hN h) (hU h) Q := by
  obtain ⟨e, rfl⟩ : ∃ e, d = e + 1 := ⟨d - 1, by omega⟩
  obtain ⟨⟨h0, h1, h2, h3, h4, h5, h6, h7, h8, h9, h10, h11⟩, ⟨c1, c2, c3, c4, c5, c6, c7, c8, c9, c10⟩, ⟨x1, x2, x3, x4⟩, d1, d2, d3⟩ := H
  obtain ⟨s1, s2, s3⟩ := HS
  refine wX0_weighRow (by omega) g v ?_
  simp only [rt_i, rt_b0, rt_b1, rt_v, rt_l, rt_o, rt_a, rV_none, rI_some, rL_some, rR_some, rT_some, rt_bI, hIf_sL, hIf_sR, hS_sI, hS_sL, hS_sR, hS_cpI, hR_sI, hR_sL, hR_cpI, hL_sI, hL_sR, hL_cpI, hI_sL, hI_sR, hN_sI, hN_sL, hN_sR, hN_cpI, hU_sI, hU_sL, hU_sR, hU_cpI, tn0, tn1, tn2, tn3, tn4, tn5, tn6, tn7, tn8, tn9, tn10, tn11, tn12, tn13, tn14, tn15, tn16, tn17, tn18, tn19, tn20, tn21, tn22, tn23, tn24, tn25, tn26, tn27, tn28, tn29, tn30, tn31, tn32, tn33, tn34, tn35, tn36, tn37, tn38, tn39, tn40, tn41, tn42, tn43, tn44, tn45, tn46, tn47, tn48, tn49, tn50, tn51, tn52, tn53, tn54, tn55, tn56, tn57, tn58, tn59, tn60, lH_eq, true_and, and_true, h0, h5, h6, c5, c6, s2, show ¬ (0 : Int32) < 0 by decide, show ¬ (3 : Int32) < 0 by decide, not_false_eq_true, Nat.zero_add, Nat.le_refl]
  refine ⟨fun z => k h (Fr'.refl _ _) ?_, fun z => ?_⟩
  · rw [if_neg (Int32.not_lt.mpr z)]
    exact ⟨s1, s2, s3⟩
  · refine k _ ((Fr'.sI (Or.inl rfl)).trans (Fr'.cpI (Or.inr rfl))) ?_
    rw [if_pos (i32_lt_of z)]
    refine ⟨fun j hj hn => ?_, ?_, fun j hj => ?_⟩
    · rw [hI_cp0, if_neg (by omega), hI_sI, if_neg (by omega)]; exact s1 j hj hn
    · rw [hI_cp0, if_neg (by omega), hI_sI, if_pos rfl, if_pos rfl]
    · rw [hI_cp0, if_pos rfl, if_pos (by omega), hI_sI, if_neg (by omega)]; exact hch j hj
theorem mom3 {h : AH} {g t a ru nr nw k : Nat} {A M : PC} {R : Option (List (List (Nat × Nat) × List (Nat × Nat)))} (H : CC h g t a ru nr nw A M R) (hk : k < 3) : MomAt h (g + 6 + 6 * k) := by
  obtain ⟨-, ⟨-, c2, c3, c4, -⟩, -⟩ := H
  have : k = 0 ∨ k = 1 ∨ k = 2 := by omega
  rcases this with rfl | rfl | rfl
  · exact c2
  · exact c3
  · exact c4
