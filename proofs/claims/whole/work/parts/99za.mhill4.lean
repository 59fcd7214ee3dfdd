theorem m_hillWord {d : Nat} {h : AH} {Q : Option Value → AH → Prop} (hd : 5 ≤ d) (j : Nat) (hj : j < 3) (k : Q (some (.retAddr (stI (hwK j)))) h) : Calls d nX12_hillWord [.int (nI j)] h (hN h) (hU h) Q := by
  obtain ⟨e, rfl⟩ : ∃ e, d = e + 1 := ⟨d - 1, by omega⟩
  have : j = 0 ∨ j = 1 ∨ j = 2 := by omega
  refine wX12_hillWord (by omega) (nI j) ?_
  rcases this with rfl | rfl | rfl
  · exact ⟨fun _ => ⟨rfl, rfl, k⟩, fun z => absurd rfl z⟩
  · exact ⟨fun z => absurd z (by decide), fun _ => ⟨fun _ => ⟨rfl, rfl, k⟩, fun z => absurd rfl z⟩⟩
  · exact ⟨fun z => absurd z (by decide), fun _ => ⟨fun z => absurd z (by decide), fun _ => ⟨rfl, rfl, k⟩⟩⟩
theorem m_hillPart {d : Nat} {h : AH} {Q : Option Value → AH → Prop} (hd : 9 ≤ d) (m n j p c nr nw : Nat) (A : PC) (t : Nat → Int32) (hj : j < 3) (H : MTp h m n t) (hp : p ≤ n) (e22 : hI h m 22 = nI p) (e23 : hI h m 23 = 0) (N : NWr h m c nr nw A) (hf : ¬ flF j c nr nw) (kk : ∀ h' p', Fr' h h' (fun c => c = m ∨ (m + 15 ≤ c ∧ c ≤ m + 20)) → (∀ j, j ≠ 22 → j ≠ 23 → hI h' m j = hI h m j) → p' ≤ n → hI h' m 22 = nI p' → hI h' m 23 = (hpF t n j (sk t n p) nr nw A).1 → ((hpF t n j (sk t n p) nr nw A).1 = 0 → sk t n p' = (hpF t n j (sk t n p) nr nw A).2.1 ∧ NWr h' m (c + 1) (hpF t n j (sk t n p) nr nw A).2.2.1 (hpF t n j (sk t n p) nr nw A).2.2.2.1 (hpF t n j (sk t n p) nr nw A).2.2.2.2) → Q none h') : Calls d nX12_hillPart [.ref m, .int (nI j)] h (hN h) (hU h) Q := by
  have : j = 0 ∨ j = 1 ∨ j = 2 := by omega
  have b := N.2.2.1
  rcases this with rfl | rfl | rfl
  · exact m_hp0 hd m n p c nr nw A t H hp e22 e23 N kk
  · exact m_hp1 hd m n p c nr nw A t H hp e22 e23 N (by omega) (by omega) kk
  · exact m_hp2 hd m n p c nr nw A t H hp e22 e23 N (by omega) (by omega) kk
theorem NWr.fr {h h' : AH} {m c nr nw : Nat} {A : PC} {S : Nat → Prop} (N : NWr h m c nr nw A) (f : Fr' h h' S) (hs : ∀ c, m + 15 ≤ c → c ≤ m + 20 → ¬ S c) : NWr h' m c nr nw A := by
  have o : ∀ c, m + 15 ≤ c → c ≤ m + 20 → ∀ j, hI h' c j = hI h c j := fun c c1 c2 => f.2.2.2.2.1 c (hs c c1 c2)
  obtain ⟨y0, ⟨y1, y2⟩, y3, y5, y6⟩ := N
  refine ⟨fun z => ?_, ⟨?_, ?_⟩, y3, fun j hj => ?_, fun j hj => ?_⟩
  · rw [o _ (by omega) (by omega)]; exact y0 z
  · rw [o _ (by omega) (by omega)]; exact y1
  · rw [o _ (by omega) (by omega)]; exact y2
  · rw [o _ (by omega) (by omega), o _ (by omega) (by omega)]; exact y5 j hj
  · rw [o _ (by omega) (by omega), o _ (by omega) (by omega), o _ (by omega) (by omega)]; exact y6 j hj
theorem m_hillClause {d : Nat} {h : AH} {Q : Option Value → AH → Prop} (hd : 10 ≤ d) (m n p c nr nw : Nat) (A : PC) (t : Nat → Int32) (hc : c ≤ 40) (H : MTp h m n t) (hp : p ≤ n) (e22 : hI h m 22 = nI p) (e23 : hI h m 23 = 0) (N : NWr h m c nr nw A) (kk : ∀ h' p', Fr' h h' (fun c => c = m ∨ (m + 15 ≤ c ∧ c ≤ m + 20)) → (∀ j, j ≠ 22 → j ≠ 23 → hI h' m j = hI h m j) → p' ≤ n → hI h' m 22 = nI p' → hI h' m 23 = (hclF t n c (sk t n p) nr nw A).1 → ((hclF t n c (sk t n p) nr nw A).1 = 0 → sk t n p' = (hclF t n c (sk t n p) nr nw A).2.1 ∧ NWr h' m (c + 1) (hclF t n c (sk t n p) nr nw A).2.2.1 (hclF t n c (sk t n p) nr nw A).2.2.2.1 (hclF t n c (sk t n p) nr nw A).2.2.2.2) → Q none h') : Calls d nX12_hillClause [.ref m, .int (nI c)] h (hN h) (hU h) Q := by
  obtain ⟨e, rfl⟩ : ∃ e, d = e + 1 := ⟨d - 1, by omega⟩
  have HM := H.1
  have hn4 := H.2.2.1
  have hs : sk t n p ≤ n := ru_le hp
  refine wX12_hillClause (by omega) m (nI c) ?_
  simp only [mdq_0 HM, true_and]
  refine m_blanks (by omega) m n p t H hp e22 (fun h1 f1 g1 g2 => ?_)
  have H1 := H.fr f1 (g1 21 (by decide)) (by omega)
  have HM1 := H1.1
  have N1 := N.fr f1 (fun c c1 c2 => by omega)
  have e231 : hI h1 m 23 = 0 := (g1 23 (by decide)).trans e23
  simp only [rV_none, mdq_0 HM1, g2, true_and]
  generalize sk t n p = q at *
  have b := N1.2.2.1
  have fin : ∀ k, k < 8 → (hclF t n c q nr nw A = (rfF 0 q k, q, nr, nw, A)) → Calls e nX12_fails [.ref m, .int (nI k), .int (nI q)] h1 (hN h1) (hU h1) (fun r2 h3 => rV r2 (RtOf none (hN h) (hU h) Q none h3)) := fun k hk eR => by
    rw [eR] at kk
    refine m_fails (by omega) m k q HM1 (fun h' f g g3 => ?_)
    rw [e231] at g3
    rw [rV_none, rt_v]
    exact ⟨f.2.2.1.trans f1.2.2.1, f.2.2.2.1.trans f1.2.2.2.1, kk h' q ((f1.trans f).mono (fun c z => Or.inl z)) (fun j a b => (g j b).trans (g1 j a)) hs ((g 22 (by decide)).trans g2) g3 (fun z => absurd z (rfF_ne (fa := 0) (q := q) (c := k) (by omega) hk))⟩
  have step : ∀ w j, j + w = 3 → (∀ i, i < j → ¬ isWd t n q (hwK i)) → Reach e nX12_hillClause (11, [.ref m, .int (nI c), .int (nI q), .int (nI j)], []) h1 (hN h) (hU h) Q := by
    intro w
    induction w with
    | zero =>
      intro j hj no
      have : j = 3 := by omega
      subst this
      refine wX12_hillClause_11 (by omega) m (nI c) (nI q) (nI 3) ?_
      simp only [mdq_0 HM1, true_and]
      exact ⟨fun _ => ⟨fun z => absurd rfl z, fun _ => fin 0 (by decide) (hcl_none (no 0 (by decide)) (no 1 (by decide)) (no 2 (by decide)))⟩, fun z => absurd (by decide) z⟩
    | succ w ih =>
      intro j hj no
      have hj3 : j < 3 := by omega
      obtain ⟨s1, s2, s3, s4, s5⟩ := stI_ok (hwK j) (hwK_lt j hj3)
      have le3 : ((3 : Int32) ≤ nI j) = (3 ≤ j) := nI_le_iff (a := 3) (by decide) (by omega)
      have eq3 : (nI j = (3 : Int32)) = (j = 3) := nI_eq_iff (b := 3) (by omega) (by decide)
      refine wX12_hillClause_11 (by omega) m (nI c) (nI q) (nI j) ?_
      simp only [le3, eq3]
      refine ⟨fun z => absurd z (by omega), fun _ => ?_⟩
      refine m_hillWord (by omega) j hj3 ?_
      simp only [rT_some, mdq_0 HM1, true_and]
      refine m_stood (by omega) m n q (hwK j) _ t rfl H1 (hwK_lt j hj3) hs g2 ?_
      simp only [rI_some, bI0, mdq_0 HM1, nI_1, true_and]
      refine ⟨fun z => ⟨fun _ => ?_, fun y => absurd y (by omega)⟩, fun z => ih (j + 1) (by omega) (fun i hi => ?_)⟩
      · have z := Decidable.not_not.mp z
        rw [← isWd_eq (hwK_lt j hj3) hs] at z
        have eR := hcl_found (A := A) hj3 hc b.1 b.2 z
        refine m_isFull (by omega) m j c nr nw HM1 hj3 hc b.1 b.2 N1.2.1.1 N1.2.1.2 ?_
        simp only [rI_some, bI0, mdq_0 HM1, true_and]
        refine ⟨fun y => ?_, fun y => fin 4 (by decide) (by rw [eR, if_pos (Decidable.not_not.mp y)])⟩
        rw [if_neg y] at eR
        rw [eR] at kk
        refine m_hillWord (by omega) j hj3 ?_
        have eo : Int32.ofNat (wd (hwK j)).length = nI (wd (hwK j)).length := rfl
        have ee : q + (wd (hwK j)).length = tkE t n q := z.2.1
        have hE := tkE_le (t := t) hs
        have ad : nI q + nI (wd (hwK j)).length = nI (tkE t n q) := by rw [nI_add, ee]
        simp only [rT_some, mdq_0 HM1, s3, eo, g2, ad, lH_eq, hS_sI, true_and]
        refine ⟨s1, ?_⟩
        have f2 : Fr' h1 (sI h1 m 22 (nI (tkE t n q))) (fun c => c = m) := Fr'.sI rfl
        have g3 : ∀ j, j ≠ 22 → hI (sI h1 m 22 (nI (tkE t n q))) m j = hI h1 m j := fun j hj => by rw [hI_sI, if_pos rfl, if_neg hj]
        refine m_hillPart (h := sI h1 m 22 (nI (tkE t n q))) (by omega) m n j (tkE t n q) c nr nw A t hj3 (H1.fr f2 (g3 21 (by decide)) (by omega)) hE.2 (by rw [hI_sI, if_pos rfl, if_pos rfl]) ((g3 23 (by decide)).trans e231) (N1.fr f2 (fun c c1 c2 => by omega)) y (fun h' p' f g hp' q1 q2 q3 => ?_)
        rw [rV_none, rt_v]
        have F : Fr' h h' (fun c => c = m ∨ (m + 15 ≤ c ∧ c ≤ m + 20)) := ((f1.trans f2).mono (fun c z => Or.inl z)).trans f
        exact ⟨F.2.2.1, F.2.2.2.1, kk h' p' F (fun j a b => (g j a b).trans ((g3 j a).trans (g1 j a))) hp' q1 q2 q3⟩
      · by_cases u : i = j
        · rw [u, isWd_eq (hwK_lt j hj3) hs]; exact z
        · exact no i (by omega)
  exact step 3 0 rfl (fun i hi => absurd hi (Nat.not_lt_zero i))
theorem semi_eq {t : Nat → Int32} {n q : Nat} (hb : ∀ i, i < n → byB (t i)) : (tkK t n q = 3 ∧ tkV t n q = 59) = (q < n ∧ t q = 59) := by
  apply propext
  constructor
  · rintro ⟨h1, h2⟩
    have hqn : ¬ n ≤ q := fun c => by unfold tkK at h1; rw [if_pos c] at h1; cases h1
    have hg : ¬ isDg (t q) = true := fun c => by unfold tkK at h1; rw [if_neg hqn, if_pos c] at h1; cases h1
    have hl : ¬ isLt (t q) = true := fun c => by unfold tkK at h1; rw [if_neg hqn, if_neg hg, if_pos c] at h1; cases h1
    unfold tkV at h2
    rw [if_neg hg, if_neg hl] at h2
    refine ⟨by omega, ?_⟩
    by_cases c : isQ2 t n q
    · rw [if_pos c] at h2
      rcases c.1 with e | e <;> rw [e] at h2 <;> exact absurd h2 (by decide)
    · rw [if_neg c, by_eq255 (hb q (by omega)) (by decide) (by decide)] at h2
      exact h2
  · rintro ⟨h1, h2⟩
    have hg : ¬ isDg (t q) = true := by rw [h2]; decide
    have hl : ¬ isLt (t q) = true := by rw [h2]; decide
    have nq2 : ¬ isQ2 t n q := fun c => by
      rcases c.1 with e | e <;> rw [h2] at e <;> exact absurd e (by decide)
    refine ⟨by unfold tkK; rw [if_neg (by omega), if_neg hg, if_neg hl], ?_⟩
    unfold tkV
    rw [if_neg hg, if_neg hl, if_neg nq2, h2]
    decide
theorem semi_E {t : Nat → Int32} {n q : Nat} (h1 : q < n) (h2 : t q = 59) : tkE t n q = q + 1 := by
  have hg : ¬ isDg (t q) = true := by rw [h2]; decide
  have hl : ¬ isLt (t q) = true := by rw [h2]; decide
  have nq2 : ¬ isQ2 t n q := fun c => by
    rcases c.1 with e | e <;> rw [h2] at e <;> exact absurd e (by decide)
  unfold tkE
  rw [if_neg (by omega), if_neg hg, if_neg hl, if_neg nq2]
theorem tkK_0 {t : Nat → Int32} {n q : Nat} : (tkK t n q = 0) = (n ≤ q) := by
  apply propext
  unfold tkK
  by_cases c : n ≤ q
  · simp [c]
  · rw [if_neg c]
    constructor
    · intro h
      split at h
      · cases h
      · split at h <;> cases h
    · exact fun z => absurd z c
def goF (t : Nat → Int32) (n q : Nat) (fa : Int32) : Int32 := if fa = 0 then (if q < n ∧ ¬ t q = 59 then rfF 0 q 0 else 0) else fa
theorem m_goesOn {d : Nat} {h : AH} {Q : Option Value → AH → Prop} (hd : 7 ≤ d) (m n p : Nat) (t : Nat → Int32) (H : MTp h m n t) (hp : p ≤ n) (e22 : hI h m 22 = nI p) (kk : ∀ h', Fr' h h' (fun c => c = m) → (∀ j, j ≠ 22 → j ≠ 23 → hI h' m j = hI h m j) → hI h' m 22 = nI (sk t n p + 1) → hI h' m 23 = goF t n (sk t n p) (hI h m 23) → Q (some (.int (bI (hI h m 23 = 0 ∧ sk t n p < n ∧ t (sk t n p) = 59)))) h') : Calls d nX12_goesOn [.ref m] h (hN h) (hU h) Q := by
  obtain ⟨e, rfl⟩ : ∃ e, d = e + 1 := ⟨d - 1, by omega⟩
  have HM := H.1
  have hn4 := H.2.2.1
  have hs : sk t n p ≤ n := ru_le hp
  refine wX12_goesOn (by omega) m ?_
  simp only [mdq_0 HM, true_and]
  refine m_blanks (by omega) m n p t H hp e22 (fun h1 f1 g1 g2 => ?_)
  have H1 := H.fr f1 (g1 21 (by decide)) (by omega)
  have HM1 := H1.1
  generalize sk t n p = q at *
  have le : ((nI n) ≤ nI q) = (n ≤ q) := nI_le_iff (by omega) (by omega)
  simp only [rV_none, mdq_0 HM1, g1 23 (by decide), H1.2.1, g2, le, rt_i, rt_b0, rt_b1, rt_v, rt_l, rt_o, rt_a, rV_none, rI_some, rL_some, rR_some, rT_some, rt_bI, hIf_sL, hIf_sR, hS_sI, hS_sL, hS_sR, hS_cpI, hR_sI, hR_sL, hR_cpI, hL_sI, hL_sR, hL_cpI, hI_sL, hI_sR, hN_sI, hN_sL, hN_sR, hN_cpI, hU_sI, hU_sL, hU_sR, hU_cpI, tn0, tn1, tn2, tn3, tn4, tn5, tn6, tn7, tn8, tn9, tn10, tn11, tn12, tn13, tn14, tn15, tn16, tn17, tn18, tn19, tn20, tn21, tn22, tn23, tn24, tn25, tn26, tn27, tn28, tn29, tn30, tn31, tn32, tn33, tn34, tn35, tn36, tn37, tn38, tn39, tn40, tn41, tn42, tn43, tn44, tn45, tn46, tn47, tn48, tn49, tn50, tn51, tn52, tn53, tn54, tn55, tn56, tn57, tn58, tn59, tn60, lH_eq, true_and, and_true, nI_1]
  generalize hfa : hI h m 23 = fa at *
  have F : Fr' h (sI h1 m 22 (nI (q + 1))) (fun c => c = m) := f1.trans (Fr'.sI rfl)
  have G : ∀ j, j ≠ 22 → j ≠ 23 → hI (sI h1 m 22 (nI (q + 1))) m j = hI h m j := fun j a b => by rw [hI_sI, if_pos rfl, if_neg a]; exact g1 j a
  have G22 : hI (sI h1 m 22 (nI (q + 1))) m 22 = nI (q + 1) := by rw [hI_sI, if_pos rfl, if_pos rfl]
  have G23 : hI (sI h1 m 22 (nI (q + 1))) m 23 = fa := by rw [hI_sI, if_pos rfl, if_neg (by decide), g1 23 (by decide)]; exact hfa
  have out : ∀ (b : Int32), b = bI (fa = 0 ∧ q < n ∧ t q = 59) → goF t n q fa = fa → hN h1 = hN h ∧ hU h1 = hU h ∧ Q (some (.int b)) (sI h1 m 22 (nI (q + 1))) := fun b eb eg => by
    rw [eb]
    exact ⟨F.2.2.1, F.2.2.2.1, kk _ F G G22 (by rw [eg]; exact G23)⟩
  refine ⟨fun z => ⟨fun _ => out 0 (bI_f (fun y => z y.1)).symm (if_neg z), fun y => absurd y z⟩, fun z => ⟨fun y => ⟨fun x => absurd z x, fun _ => ⟨fun _ => out 0 (bI_f (fun x => by omega)).symm ?_, fun x => absurd y x⟩⟩, fun y => ?_⟩⟩
  · unfold goF
    rw [if_pos z, if_neg (fun x => by omega), z]
  refine m_sign (by omega) m n q t H1 (by omega) g2 ?_
  simp only [rI_some, sg_eq H1.2.2.2.2 (k := 59) (by decide) (by decide), mdq_0 HM1, g1 23 (by decide), H1.2.1, g2, le, rt_i, rt_b0, rt_b1, rt_v, rt_l, rt_o, rt_a, rV_none, rI_some, rL_some, rR_some, rT_some, rt_bI, hIf_sL, hIf_sR, hS_sI, hS_sL, hS_sR, hS_cpI, hR_sI, hR_sL, hR_cpI, hL_sI, hL_sR, hL_cpI, hI_sL, hI_sR, hN_sI, hN_sL, hN_sR, hN_cpI, hU_sI, hU_sL, hU_sR, hU_cpI, tn0, tn1, tn2, tn3, tn4, tn5, tn6, tn7, tn8, tn9, tn10, tn11, tn12, tn13, tn14, tn15, tn16, tn17, tn18, tn19, tn20, tn21, tn22, tn23, tn24, tn25, tn26, tn27, tn28, tn29, tn30, tn31, tn32, tn33, tn34, tn35, tn36, tn37, tn38, tn39, tn40, tn41, tn42, tn43, tn44, tn45, tn46, tn47, tn48, tn49, tn50, tn51, tn52, tn53, tn54, tn55, tn56, tn57, tn58, tn59, tn60, lH_eq, true_and, and_true, nI_1, hfa]
  refine ⟨fun x => ⟨fun w => absurd z w, fun _ => ⟨fun w => absurd w y, fun _ => out 1 (bI_t ⟨z, x⟩).symm ?_⟩⟩, fun x => ?_⟩
  · unfold goF
    rw [if_pos z, if_neg (fun w => w.2 x.2), z]
  · refine m_fails (by omega) m 0 q HM1 (fun h2 f2 g3 g4 => ?_)
    have HM2 := HM1.fr f2
    have e23 : hI h2 m 23 = rfF 0 q 0 := by rw [g4, g1 23 (by decide), hfa, z]
    have ne : ¬ rfF 0 q 0 = 0 := rfF_ne (fa := 0) (q := q) (c := 0) (by omega) (by omega)
    simp only [rV_none, mdq_0 HM2, e23, g3 22 (by decide), g2, rt_i, rt_b0, rt_b1, rt_v, rt_l, rt_o, rt_a, rV_none, rI_some, rL_some, rR_some, rT_some, rt_bI, hIf_sL, hIf_sR, hS_sI, hS_sL, hS_sR, hS_cpI, hR_sI, hR_sL, hR_cpI, hL_sI, hL_sR, hL_cpI, hI_sL, hI_sR, hN_sI, hN_sL, hN_sR, hN_cpI, hU_sI, hU_sL, hU_sR, hU_cpI, tn0, tn1, tn2, tn3, tn4, tn5, tn6, tn7, tn8, tn9, tn10, tn11, tn12, tn13, tn14, tn15, tn16, tn17, tn18, tn19, tn20, tn21, tn22, tn23, tn24, tn25, tn26, tn27, tn28, tn29, tn30, tn31, tn32, tn33, tn34, tn35, tn36, tn37, tn38, tn39, tn40, tn41, tn42, tn43, tn44, tn45, tn46, tn47, tn48, tn49, tn50, tn51, tn52, tn53, tn54, tn55, tn56, tn57, tn58, tn59, tn60, lH_eq, true_and, and_true, nI_1]
    have F2 : Fr' h (sI h2 m 22 (nI (q + 1))) (fun c => c = m) := (f1.trans f2).trans (Fr'.sI rfl)
    have no : bI (fa = 0 ∧ q < n ∧ t q = 59) = 0 := bI_f (fun w => x w.2)
    rw [no] at kk
    refine ⟨fun _ => ⟨F2.2.2.1, F2.2.2.2.1, kk _ F2 (fun j a b => ?_) ?_ ?_⟩, fun w => absurd w ne⟩
    · rw [hI_sI, if_pos rfl, if_neg a, g3 j b]; exact g1 j a
    · rw [hI_sI, if_pos rfl, if_pos rfl]
    · rw [hI_sI, if_pos rfl, if_neg (by decide), e23]
      unfold goF
      rw [if_pos z, if_pos ⟨by omega, fun w => x ⟨by omega, w⟩⟩]
