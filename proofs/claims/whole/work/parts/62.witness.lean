/-! which rules the notes bear out -/
def VB (v : Nat) : Nat → Prop := fun c => c = v ∨ (v + 3 ≤ c ∧ c ≤ v + 19)
def ntOk (nr nw : Nat) (ns : List (Nat × Nat × Int32)) : Prop := ns.length ≤ 10 ∧ ∀ (k : Nat) (q : Nat × Nat × Int32), ns[k]? = some q → q.1 ≤ 60 ∧ q.2.1 < nw
def NtIs (h : AH) (t : Nat) (ns : List (Nat × Nat × Int32)) : Prop := hI h t 9 = nI ns.length ∧ (∀ k q, ns[k]? = some q → hI h (t + 8) k = nI q.1 ∧ hI h (t + 9) k = nI q.2.1 ∧ hI h (t + 10) k = q.2.2)
def VC (h : AH) (v t a nr nw : Nat) (A : PC) (ns : List (Nat × Nat × Int32)) : Prop := (hS h v = (20, 5) ∧ hR h v 0 = v + 1 ∧ hR h v 1 = v + 6 ∧ hR h v 2 = v + 12 ∧ hR h t 0 = a) ∧ (CouAt h (v + 1) ∧ MomAt h (v + 6) ∧ hS h (v + 12) = (8, 7) ∧ (∀ i, i < 7 → hR h (v + 12) i = v + 13 + i ∧ hS h (v + 13 + i) = (1, 6)) ∧ OrdIs h (v + 1) nr (fun _ => none)) ∧ (TwnAt h t ∧ HilIs h a nr nw A ∧ NtIs h t ns ∧ ntOk nr nw ns) ∧ (v + 20 ≤ a ∨ a + 6 ≤ v) ∧ (v + 20 ≤ t ∨ t + 11 ≤ v)
theorem NtIs.fr {h h' : AH} {t : Nat} {ns : List (Nat × Nat × Int32)} {S : Nat → Prop} (H : NtIs h t ns) (f : Fr' h h' S) (h1 : ¬ S t) (h2 : ¬ S (t + 8)) (h3 : ¬ S (t + 9)) (h4 : ¬ S (t + 10)) : NtIs h' t ns := by
  refine ⟨by rw [f.2.2.2.2.1 t h1]; exact H.1, fun k q hk => ?_⟩
  rw [f.2.2.2.2.1 _ h2, f.2.2.2.2.1 _ h3, f.2.2.2.2.1 _ h4]
  exact H.2 k q hk
theorem VC.fr {h h' : AH} {v t a nr nw : Nat} {A : PC} {ns : List (Nat × Nat × Int32)} (H : VC h v t a nr nw A ns) (f : Fr' h h' (VB v)) : VC h' v t a nr nw A ns := by
  obtain ⟨⟨h0, h1, h2, h3, h4⟩, ⟨c1, c2, c3, c4, c5⟩, ⟨x1, x2, x3, x4⟩, d1, d2⟩ := H
  refine ⟨⟨?_, ?_, ?_, ?_, ?_⟩, ⟨c1.fr f, c2.fr f, ?_, fun i hi => ?_, c5.fr f (fun z => by unfold VB at z; omega)⟩, ⟨x1.fr f, x2.fr f (fun b z1 z2 z => by unfold VB at z; omega), x3.fr f (by unfold VB; omega) (by unfold VB; omega) (by unfold VB; omega) (by unfold VB; omega), x4⟩, d1, d2⟩
  all_goals try (simp only [f.1, f.2.1]; assumption)
  rw [f.1, f.2.1]; exact c4 i hi
def nDay (ns : List (Nat × Nat × Int32)) (k : Nat) : Nat := match ns[k]? with
  | some q => q.1
  | none => 0
def lsF (l : Nat) (ns : List (Nat × Nat × Int32)) : Nat → Nat
  | 0 => l
  | n + 1 => if lsF l ns n < nDay ns n then nDay ns n else lsF l ns n
theorem lsF_le {l nr nw : Nat} {ns : List (Nat × Nat × Int32)} (hl : l ≤ 60) (ho : ntOk nr nw ns) : ∀ n, l ≤ lsF l ns n ∧ lsF l ns n ≤ 60 ∧ (∀ k, k < n → nDay ns k ≤ lsF l ns n)
  | 0 => ⟨Nat.le_refl _, hl, fun k hk => absurd hk (Nat.not_lt_zero k)⟩
  | n + 1 => by
    obtain ⟨i1, i2, i3⟩ := lsF_le hl ho n
    have hd : nDay ns n ≤ 60 := by
      unfold nDay
      cases hq : ns[n]? with
      | none => exact Nat.zero_le _
      | some q => exact (ho.2 n q hq).1
    simp only [lsF]
    split
    · exact ⟨by omega, hd, fun k hk => by by_cases c : k = n; { rw [c]; omega }; { have := i3 k (by omega); omega }⟩
    · exact ⟨i1, i2, fun k hk => by by_cases c : k = n; { rw [c]; omega }; { exact i3 k (by omega) }⟩
theorem lo_loop {d E1 E2 : Nat} {Q : Option Value → AH → Prop} {h : AH} (hd : 4 ≤ d) (t nr nw l : Nat) (ns : List (Nat × Nat × Int32)) (HT : TwnAt h t) (HN : NtIs h t ns) (ho : ntOk nr nw ns) (hl : l ≤ 60) (e1 : hN h = E1) (e2 : hU h = E2) (k : Q (some (.int (nI (lsF l ns ns.length)))) h) : ∀ n i : Nat, i + n = ns.length → Reach d nX10_lastOf (4, [.ref t, .float 0, .int (nI (lsF l ns i)), .int (nI i)], []) h E1 E2 Q
  | 0, i, hi => by
    have : i = ns.length := by omega
    subst this
    have := ho.1
    refine wX10_lastOf_4 hd t _ (nI ns.length) ?_
    simp only [rt_i, rt_b0, rt_b1, rt_v, rt_l, rt_o, rt_a, rV_none, rI_some, rL_some, rR_some, rT_some, rt_bI, hIf_sL, hIf_sR, hS_sI, hS_sL, hS_sR, hS_cpI, hR_sI, hR_sL, hR_cpI, hL_sI, hL_sR, hL_cpI, hI_sL, hI_sR, hN_sI, hN_sL, hN_sR, hN_cpI, hU_sI, hU_sL, hU_sR, hU_cpI, tn0, tn1, tn2, tn3, tn4, tn5, tn6, tn7, tn8, tn9, tn10, tn11, tn12, tn13, tn14, tn15, tn16, tn17, tn18, tn19, tn20, tn21, tn22, tn23, tn24, tn25, tn26, tn27, tn28, tn29, tn30, tn31, tn32, tn33, tn34, tn35, tn36, tn37, tn38, tn39, tn40, tn41, tn42, tn43, tn44, tn45, tn46, tn47, tn48, tn49, tn50, tn51, tn52, tn53, tn54, tn55, tn56, tn57, tn58, tn59, tn60, lH_eq, true_and, and_true, twq_0 HT, HN.1, nI_le_iff (show ns.length < 2 ^ 31 by omega) (show ns.length < 2 ^ 31 by omega)]
    exact ⟨fun _ => ⟨e1, e2, k⟩, fun z => absurd (Nat.le_refl _) z⟩
  | n + 1, i, hi => by
    have ih := lo_loop hd t nr nw l ns HT HN ho hl e1 e2 k n (i + 1) (by omega)
    have h10 := ho.1
    obtain ⟨q, hq⟩ : ∃ q, ns[i]? = some q := ⟨ns[i]'(by omega), List.getElem?_eq_getElem (by omega)⟩
    have hqd : nDay ns i = q.1 := by unfold nDay; rw [hq]
    have hq60 := (ho.2 i q hq).1
    have hls := (lsF_le hl ho i).2.1
    refine wX10_lastOf_4 hd t _ (nI i) ?_
    simp only [rt_i, rt_b0, rt_b1, rt_v, rt_l, rt_o, rt_a, rV_none, rI_some, rL_some, rR_some, rT_some, rt_bI, hIf_sL, hIf_sR, hS_sI, hS_sL, hS_sR, hS_cpI, hR_sI, hR_sL, hR_cpI, hL_sI, hL_sR, hL_cpI, hI_sL, hI_sR, hN_sI, hN_sL, hN_sR, hN_cpI, hU_sI, hU_sL, hU_sR, hU_cpI, tn0, tn1, tn2, tn3, tn4, tn5, tn6, tn7, tn8, tn9, tn10, tn11, tn12, tn13, tn14, tn15, tn16, tn17, tn18, tn19, tn20, tn21, tn22, tn23, tn24, tn25, tn26, tn27, tn28, tn29, tn30, tn31, tn32, tn33, tn34, tn35, tn36, tn37, tn38, tn39, tn40, tn41, tn42, tn43, tn44, tn45, tn46, tn47, tn48, tn49, tn50, tn51, tn52, tn53, tn54, tn55, tn56, tn57, tn58, tn59, tn60, lH_eq, true_and, and_true, twq_0 HT, twq_1 HT, twq_2 HT, twq_3 HT, twq_4 HT, twq_5 HT, twq_6 HT, twq_7 HT, twq_8 HT, twq_9 HT, twq_10 HT, HN.1, nI_le_iff (show ns.length < 2 ^ 31 by omega) (show i < 2 ^ 31 by omega), vp_in_nI (show i < 10 by omega) (show 10 < 2 ^ 31 by omega), nI_clamp (show i < 2 ^ 31 by omega), (HN.2 i q hq).1, nI_lt_iff (show lsF l ns i < 2 ^ 31 by omega) (show q.1 < 2 ^ 31 by omega), nI_1]
    simp only [lsF, hqd] at ih
    refine ⟨fun z => absurd z (by omega), fun _ => ?_⟩
    by_cases c : lsF l ns i < q.1
    · rw [if_pos c] at ih ⊢; exact ih
    · rw [if_neg c] at ih ⊢; exact ih
theorem sp_lastOf {d : Nat} {h : AH} {Q : Option Value → AH → Prop} (hd : 5 ≤ d) (t nr nw l : Nat) (ns : List (Nat × Nat × Int32)) (HT : TwnAt h t) (HN : NtIs h t ns) (ho : ntOk nr nw ns) (hl : l ≤ 60) (k : Q (some (.int (nI (lsF l ns ns.length)))) h) : Calls d nX10_lastOf [.ref t, .int (nI l)] h (hN h) (hU h) Q := by
  obtain ⟨e, rfl⟩ : ∃ e, d = e + 1 := ⟨d - 1, by omega⟩
  exact wX10_lastOf (by omega) t (nI l) (lo_loop (by omega) t nr nw l ns HT HN ho hl rfl rfl k ns.length 0 (by omega))
/-- the notes of day d agree with what was got, those from i on -/
def agP (ns : List (Nat × Nat × Int32)) (N : PC) (d i : Nat) : Prop := ∀ (k : Nat) (q : Nat × Nat × Int32), i ≤ k → ns[k]? = some q → q.1 = d → N 5 q.2.1 = q.2.2
theorem ag_loop {d E1 E2 : Nat} {Q : Option Value → AH → Prop} {h : AH} (hd : 4 ≤ d) (v t a nr nw day : Nat) (A N : PC) (ns : List (Nat × Nat × Int32)) (H : VC h v t a nr nw A ns) (HM : MomIs h (v + 6) nr nw N) (hday : day ≤ 1000) (e1 : hN h = E1) (e2 : hU h = E2) (k1 : agP ns N day 0 → Q (some (.int 1)) h) (k0 : ¬ agP ns N day 0 → Q (some (.int 0)) h) : ∀ n i : Nat, i + n = ns.length → (agP ns N day i → agP ns N day 0) → Reach d nX10_agrees (2, [.ref v, .ref t, .int (nI day), .int (nI i)], []) h E1 E2 Q
  | 0, i, hi, he => by
    have : i = ns.length := by omega
    subst this
    obtain ⟨⟨h0, h1, h2, h3, h4⟩, ⟨c1, c2, c3, c4, c5⟩, ⟨x1, x2, x3, x4⟩, d1, d2⟩ := H
    have := x4.1
    refine wX10_agrees_2 hd v t (nI day) (nI ns.length) ?_
    simp only [rt_i, rt_b0, rt_b1, rt_v, rt_l, rt_o, rt_a, rV_none, rI_some, rL_some, rR_some, rT_some, rt_bI, hIf_sL, hIf_sR, hS_sI, hS_sL, hS_sR, hS_cpI, hR_sI, hR_sL, hR_cpI, hL_sI, hL_sR, hL_cpI, hI_sL, hI_sR, hN_sI, hN_sL, hN_sR, hN_cpI, hU_sI, hU_sL, hU_sR, hU_cpI, tn0, tn1, tn2, tn3, tn4, tn5, tn6, tn7, tn8, tn9, tn10, tn11, tn12, tn13, tn14, tn15, tn16, tn17, tn18, tn19, tn20, tn21, tn22, tn23, tn24, tn25, tn26, tn27, tn28, tn29, tn30, tn31, tn32, tn33, tn34, tn35, tn36, tn37, tn38, tn39, tn40, tn41, tn42, tn43, tn44, tn45, tn46, tn47, tn48, tn49, tn50, tn51, tn52, tn53, tn54, tn55, tn56, tn57, tn58, tn59, tn60, lH_eq, true_and, and_true, twq_0 x1, x3.1, nI_le_iff (show ns.length < 2 ^ 31 by omega) (show ns.length < 2 ^ 31 by omega)]
    exact ⟨fun _ => ⟨e1, e2, k1 (he (fun k q hk hq => by have := getq_lt hq; omega))⟩, fun z => absurd (Nat.le_refl _) z⟩
  | n + 1, i, hi, he => by
    have ih := ag_loop hd v t a nr nw day A N ns H HM hday e1 e2 k1 k0 n (i + 1) (by omega)
    obtain ⟨⟨h0, h1, h2, h3, h4⟩, ⟨c1, c2, c3, c4, c5⟩, ⟨x1, x2, x3, x4⟩, d1, d2⟩ := H
    have h10 := x4.1
    have b2 := x2.2.2.2.2.1
    obtain ⟨q, hq⟩ : ∃ q, ns[i]? = some q := ⟨ns[i]'(by omega), List.getElem?_eq_getElem (by omega)⟩
    obtain ⟨q60, qw⟩ := x4.2 i q hq
    have hn := x3.2 i q hq
    have eg : hI h (v + 6 + 5) q.2.1 = N 5 q.2.1 := (HM.2.1.2.2 q.2.1 qw).2
    have nx : (q.1 = day → N 5 q.2.1 = q.2.2) → Reach d nX10_agrees (2, [.ref v, .ref t, .int (nI day), .int (nI (i + 1))], []) h E1 E2 Q := fun z => ih (fun y => he (fun k p hk hp => by
      by_cases c : k = i
      · subst c
        rw [hq] at hp
        cases hp
        exact z
      · exact y k p (by omega) hp))
    refine wX10_agrees_2 hd v t (nI day) (nI i) ?_
    simp only [rt_i, rt_b0, rt_b1, rt_v, rt_l, rt_o, rt_a, rV_none, rI_some, rL_some, rR_some, rT_some, rt_bI, hIf_sL, hIf_sR, hS_sI, hS_sL, hS_sR, hS_cpI, hR_sI, hR_sL, hR_cpI, hL_sI, hL_sR, hL_cpI, hI_sL, hI_sR, hN_sI, hN_sL, hN_sR, hN_cpI, hU_sI, hU_sL, hU_sR, hU_cpI, tn0, tn1, tn2, tn3, tn4, tn5, tn6, tn7, tn8, tn9, tn10, tn11, tn12, tn13, tn14, tn15, tn16, tn17, tn18, tn19, tn20, tn21, tn22, tn23, tn24, tn25, tn26, tn27, tn28, tn29, tn30, tn31, tn32, tn33, tn34, tn35, tn36, tn37, tn38, tn39, tn40, tn41, tn42, tn43, tn44, tn45, tn46, tn47, tn48, tn49, tn50, tn51, tn52, tn53, tn54, tn55, tn56, tn57, tn58, tn59, tn60, lH_eq, true_and, and_true, twq_0 x1, twq_1 x1, twq_2 x1, twq_3 x1, twq_4 x1, twq_5 x1, twq_6 x1, twq_7 x1, twq_8 x1, twq_9 x1, twq_10 x1, x3.1, nI_le_iff (show ns.length < 2 ^ 31 by omega) (show i < 2 ^ 31 by omega), vp_in_nI (show i < 10 by omega) (show 10 < 2 ^ 31 by omega), nI_clamp (show i < 2 ^ 31 by omega), hn.1, hn.2.1, hn.2.2, nI_eq_iff (show q.1 < 2 ^ 31 by omega) (show day < 2 ^ 31 by omega), h0, h2, moq_0 c2, moq_1 c2, moq_2 c2, moq_3 c2, moq_4 c2, moq_5 c2, moq_6 c2, moq_7 c2, moq_8 c2, moq_9 c2, moq_10 c2, vp_in_nI (show q.2.1 < 6 by omega) (show 6 < 2 ^ 31 by decide), nI_clamp (show q.2.1 < 2 ^ 31 by omega), eg, nI_1]
    refine ⟨fun z => absurd z (by omega), fun _ => ⟨fun z => nx (fun y => absurd y z), fun z => ⟨fun y => nx (fun _ => y), fun y => ⟨e1, e2, k0 (fun x => y (x i q (Nat.zero_le i) hq z))⟩⟩⟩⟩
theorem sp_agrees {d : Nat} {h : AH} {Q : Option Value → AH → Prop} (hd : 5 ≤ d) (v t a nr nw day : Nat) (A N : PC) (ns : List (Nat × Nat × Int32)) (H : VC h v t a nr nw A ns) (HM : MomIs h (v + 6) nr nw N) (hday : day ≤ 1000) (k1 : agP ns N day 0 → Q (some (.int 1)) h) (k0 : ¬ agP ns N day 0 → Q (some (.int 0)) h) : Calls d nX10_agrees [.ref v, .ref t, .int (nI day)] h (hN h) (hU h) Q := by
  obtain ⟨e, rfl⟩ : ∃ e, d = e + 1 := ⟨d - 1, by omega⟩
  exact wX10_agrees (by omega) v t (nI day) (ag_loop (by omega) v t a nr nw day A N ns H HM hday rfl rfl k1 k0 ns.length 0 (by omega) (fun x => x))
/-- a rule fits the notes -/
def fitP (R : Option (List (List (Nat × Nat) × List (Nat × Nat)))) (A : PC) (nr nw : Nat) (ns : List (Nat × Nat × Int32)) : Prop := ∀ (k : Nat) (q : Nat × Nat × Int32), ns[k]? = some q → itF R A nr nw (q.1 + 1) (begM A) 5 q.2.1 = q.2.2
theorem fts_loop {d E1 E2 : Nat} {Q : Option Value → AH → Prop} (hd : 10 ≤ d) (v t a ru nr nw l last m : Nat) (A : PC) (ns : List (Nat × Nat × Int32)) (R : Option (List (List (Nat × Nat) × List (Nat × Nat)))) (hm : m < 7) (hlast : last ≤ 60) (hll : l ≤ last) (hld : ∀ (k : Nat) (q : Nat × Nat × Int32), ns[k]? = some q → q.1 ≤ last) (dru : ru ≠ 0 → v + 20 ≤ ru ∨ ru + 3 ≤ v) (k0 : AH) (e1 : hN k0 = E1) (e2 : hU k0 = E2) (k1 : fitP R A nr nw ns → ∀ h', Fr' k0 h' (VB v) → (∀ j, hI h' v j = hI k0 v j) → (∀ i, i < 7 → i ≠ m → ∀ j, hI h' (v + 13 + i) j = hI k0 (v + 13 + i) j) → (∀ w, w < nw → hI h' (v + 13 + m) w = itF R A nr nw (l + 1) (begM A) 5 w) → Q (some (.int 1)) h') (k2 : ¬ fitP R A nr nw ns → ∀ h', Fr' k0 h' (VB v) → (∀ j, hI h' v j = hI k0 v j) → (∀ i, i < 7 → i ≠ m → ∀ j, hI h' (v + 13 + i) j = hI k0 (v + 13 + i) j) → Q (some (.int 0)) h') : ∀ (n i : Nat) (h : AH), i + n = last + 1 → VC h v t a nr nw A ns → RuIs h ru R → hI h v 3 = nI m → Fr' k0 h (VB v) → (∀ j, hI h v j = hI k0 v j) → (∀ i, i < 7 → i ≠ m → ∀ j, hI h (v + 13 + i) j = hI k0 (v + 13 + i) j) → MomIs h (v + 6) nr nw (itF R A nr nw i (begM A)) → (∀ (k : Nat) (q : Nat × Nat × Int32), ns[k]? = some q → q.1 < i → itF R A nr nw (q.1 + 1) (begM A) 5 q.2.1 = q.2.2) → (l < i → ∀ w, w < nw → hI h (v + 13 + m) w = itF R A nr nw (l + 1) (begM A) 5 w) → Reach d nX10_fits (21, [.ref v, .ref t, .ref ru, .int (nI l), .int (nI last), .int (nI i)], []) h E1 E2 Q
  | 0, i, h, hi, H, HR, h3, f, fv, fr, HM, hag, hg => by
    have : i = last + 1 := by omega
    subst this
    refine wX10_fits_21 (by omega) v t ru (nI l) (nI last) (nI (last + 1)) ?_
    simp only [rt_i, rt_b0, rt_b1, rt_v, rt_l, rt_o, rt_a, rV_none, rI_some, rL_some, rR_some, rT_some, rt_bI, hIf_sL, hIf_sR, hS_sI, hS_sL, hS_sR, hS_cpI, hR_sI, hR_sL, hR_cpI, hL_sI, hL_sR, hL_cpI, hI_sL, hI_sR, hN_sI, hN_sL, hN_sR, hN_cpI, hU_sI, hU_sL, hU_sR, hU_cpI, tn0, tn1, tn2, tn3, tn4, tn5, tn6, tn7, tn8, tn9, tn10, tn11, tn12, tn13, tn14, tn15, tn16, tn17, tn18, tn19, tn20, tn21, tn22, tn23, tn24, tn25, tn26, tn27, tn28, tn29, tn30, tn31, tn32, tn33, tn34, tn35, tn36, tn37, tn38, tn39, tn40, tn41, tn42, tn43, tn44, tn45, tn46, tn47, tn48, tn49, tn50, tn51, tn52, tn53, tn54, tn55, tn56, tn57, tn58, tn59, tn60, lH_eq, true_and, and_true, nI_lt_iff (show last < 2 ^ 31 by omega) (show last + 1 < 2 ^ 31 by omega)]
    exact ⟨fun _ => ⟨f.2.2.1.trans e1, f.2.2.2.1.trans e2, k1 (fun k q hq => hag k q hq (by have := hld k q hq; omega)) h f fv fr (hg (by omega))⟩, fun z => absurd (Nat.lt_succ_self last) z⟩
  | n + 1, i, h, hi, H, HR, h3, f, fv, fr, HM, hag, hg => by
    have HV := H
    obtain ⟨⟨h0, h1, h2, h3', h4⟩, ⟨c1, c2, c3, c4, c5⟩, ⟨x1, x2, x3, x4⟩, d1, d2⟩ := H
    have b1 := x2.2.2.2.1
    have b2 := x2.2.2.2.2.1
    refine wX10_fits_21 (by omega) v t ru (nI l) (nI last) (nI i) ?_
    simp only [rt_i, rt_b0, rt_b1, rt_v, rt_l, rt_o, rt_a, rV_none, rI_some, rL_some, rR_some, rT_some, rt_bI, hIf_sL, hIf_sR, hS_sI, hS_sL, hS_sR, hS_cpI, hR_sI, hR_sL, hR_cpI, hL_sI, hL_sR, hL_cpI, hI_sL, hI_sR, hN_sI, hN_sL, hN_sR, hN_cpI, hU_sI, hU_sL, hU_sR, hU_cpI, tn0, tn1, tn2, tn3, tn4, tn5, tn6, tn7, tn8, tn9, tn10, tn11, tn12, tn13, tn14, tn15, tn16, tn17, tn18, tn19, tn20, tn21, tn22, tn23, tn24, tn25, tn26, tn27, tn28, tn29, tn30, tn31, tn32, tn33, tn34, tn35, tn36, tn37, tn38, tn39, tn40, tn41, tn42, tn43, tn44, tn45, tn46, tn47, tn48, tn49, tn50, tn51, tn52, tn53, tn54, tn55, tn56, tn57, tn58, tn59, tn60, lH_eq, true_and, and_true, nI_lt_iff (show last < 2 ^ 31 by omega) (show i < 2 ^ 31 by omega), h0, h1, h2, h4, twq_0 x1, coq_0 c1]
    refine ⟨fun z => absurd z (by omega), fun _ => ?_⟩
    have dam := hil_mom_dis x2.1 c2
    refine sp_pass (by omega) (v + 1) ru a (v + 6) nr nw R (fun _ => none) A _ c1 x2 HM HR c5 (by omega) (by omega) dam (fun z => by have := dru z; omega) (fun k1' g q => ?_)
    have gV := g.mono (T := VB v) (fun c z => by unfold VB; omega)
    have fA := f.trans gV
    have HV1 := HV.fr gV
    have gv : ∀ j, hI k1' v j = hI h v j := g.2.2.2.2.1 v (by omega)
    have gr : ∀ i j, hI k1' (v + 13 + i) j = hI h (v + 13 + i) j := fun i j => g.2.2.2.2.1 _ (by omega) j
    have HR1 : RuIs k1' ru R := HR.fr g (fun z => by have := dru z; omega)
    simp only [rI_some, g.1, h0, true_and]
    refine sp_agrees (by omega) v t a nr nw i A _ ns HV1 q (by omega) (fun ag => ?_) (fun nag => ?_)
    · have hag' : ∀ (k : Nat) (q : Nat × Nat × Int32), ns[k]? = some q → q.1 < i + 1 → itF R A nr nw (q.1 + 1) (begM A) 5 q.2.1 = q.2.2 := fun k q hq hlt => by
        by_cases c : q.1 = i
        · rw [c]
          exact ag k q (Nat.zero_le k) hq c
        · exact hag k q hq (by omega)
      have h3b : hI k1' v 3 = nI m := by rw [gv]; exact h3
      simp only [rI_some, show ¬ (1 : Int32) = 0 by decide, not_false_eq_true, g.1, g.2.1, h0, h2, h3', h3b, moq_0 c2, moq_1 c2, moq_2 c2, moq_3 c2, moq_4 c2, moq_5 c2, moq_6 c2, moq_7 c2, moq_8 c2, moq_9 c2, moq_10 c2, rt_i, rt_b0, rt_b1, rt_v, rt_l, rt_o, rt_a, rV_none, rI_some, rL_some, rR_some, rT_some, rt_bI, hIf_sL, hIf_sR, hS_sI, hS_sL, hS_sR, hS_cpI, hR_sI, hR_sL, hR_cpI, hL_sI, hL_sR, hL_cpI, hI_sL, hI_sR, hN_sI, hN_sL, hN_sR, hN_cpI, hU_sI, hU_sL, hU_sR, hU_cpI, tn0, tn1, tn2, tn3, tn4, tn5, tn6, tn7, tn8, tn9, tn10, tn11, tn12, tn13, tn14, tn15, tn16, tn17, tn18, tn19, tn20, tn21, tn22, tn23, tn24, tn25, tn26, tn27, tn28, tn29, tn30, tn31, tn32, tn33, tn34, tn35, tn36, tn37, tn38, tn39, tn40, tn41, tn42, tn43, tn44, tn45, tn46, tn47, tn48, tn49, tn50, tn51, tn52, tn53, tn54, tn55, tn56, tn57, tn58, tn59, tn60, lH_eq, true_and, and_true, c3, vp_in_nI (show m < 7 by omega) (show 7 < 2 ^ 31 by omega), nI_clamp (show m < 2 ^ 31 by omega), (c4 m hm).1, (c4 m hm).2, nI_eq_iff (show i < 2 ^ 31 by omega) (show l < 2 ^ 31 by omega), show ¬ (0 : Int32) < 0 by decide, show ¬ (6 : Int32) < 0 by decide, Nat.zero_add, Nat.le_refl, nI_1]
      refine ⟨fun _ => ⟨fun z => ?_, fun z => ⟨by decide, ?_⟩⟩, fun z => absurd z (by decide)⟩
      · refine fts_loop hd v t a ru nr nw l last m A ns R hm hlast hll hld dru k0 e1 e2 k1 k2 n (i + 1) k1' (by omega) HV1 HR1 h3b fA (fun j => (gv j).trans (fv j)) (fun a b c j => (gr a j).trans (fr a b c j)) q hag' (fun y w hw => ?_)
        rw [gr]
        exact hg (by omega) w hw
      · subst z
        have fc : Fr' k1' (cpI k1' (v + 6 + 5) 0 (v + 13 + m) 0 6) (fun c => c = v + 13 + m) := Fr'.cpI rfl
        have fcV := fc.mono (T := VB v) (fun c z => by unfold VB; omega)
        refine fts_loop hd v t a ru nr nw i last m A ns R hm hlast hll hld dru k0 e1 e2 k1 k2 n (i + 1) _ (by omega) (HV1.fr fcV) (HR1.fr fc (fun z => by have := dru z; omega)) (by rw [fc.2.2.2.2.1 v (by omega)]; exact h3b) (fA.trans fcV) (fun j => by rw [fc.2.2.2.2.1 v (by omega), gv]; exact fv j) (fun a b c j => by rw [fc.2.2.2.2.1 _ (by omega), gr]; exact fr a b c j) (q.fr b1 b2 fc (fun b z1 z2 z => by omega)) hag' (fun _ w hw => ?_)
        rw [hI_cp0, if_pos rfl, if_pos (by omega)]
        exact (q.2.1.2.2 w hw).2
    · simp only [rI_some, show ¬ (0 : Int32) ≠ 0 by decide, rt_i, rt_b0, rt_b1, rt_v, rt_l, rt_o, rt_a, rV_none, rI_some, rL_some, rR_some, rT_some, rt_bI, hIf_sL, hIf_sR, hS_sI, hS_sL, hS_sR, hS_cpI, hR_sI, hR_sL, hR_cpI, hL_sI, hL_sR, hL_cpI, hI_sL, hI_sR, hN_sI, hN_sL, hN_sR, hN_cpI, hU_sI, hU_sL, hU_sR, hU_cpI, tn0, tn1, tn2, tn3, tn4, tn5, tn6, tn7, tn8, tn9, tn10, tn11, tn12, tn13, tn14, tn15, tn16, tn17, tn18, tn19, tn20, tn21, tn22, tn23, tn24, tn25, tn26, tn27, tn28, tn29, tn30, tn31, tn32, tn33, tn34, tn35, tn36, tn37, tn38, tn39, tn40, tn41, tn42, tn43, tn44, tn45, tn46, tn47, tn48, tn49, tn50, tn51, tn52, tn53, tn54, tn55, tn56, tn57, tn58, tn59, tn60, lH_eq, true_and, and_true]
      refine ⟨fun z => absurd (by trivial) z, fun _ => ⟨fA.2.2.1.trans e1, fA.2.2.2.1.trans e2, k2 (fun hf => nag (fun k q _ hq hd => ?_)) k1' fA (fun j => (gv j).trans (fv j)) (fun a b c j => (gr a j).trans (fr a b c j))⟩⟩
      have := hf k q hq
      rw [hd] at this
      exact this
