/-! the class's images -/
def tw0 : TW := (0, 0, fun _ _ => 0, -1, 0, fun _ _ => 0, [], [])
set_option maxHeartbeats 4000000 in
theorem sp_Tinit {d : Nat} {h : AH} {Q : Option Value → AH → Prop} (hd : 6 ≤ d) (a : Nat) (hs : hS h a = (19, 10)) (hn : hN h = a + 1) (k : ∀ h', FrG h h' (fun b => b = a) → hN h' = a + 11 → hU h' = hU h + 83 → TownIs h' a tw0 → hR h' a 0 = 0 → (∀ j, hR h' (a + 7) j = 0) → Q none h') : Calls d nX9_init [.ref a] h (a + 11) (hU h + 83) Q := by
  obtain ⟨e, rfl⟩ : ∃ e, d = e + 1 := ⟨d - 1, by omega⟩
  have hf : fN 4 = 6 := rfl
  refine wX9_init (E1 := a + 11) (E2 := hU h + 83) (by omega) (by omega) (by omega) a ?_
  simp only [rt_i, rt_b0, rt_b1, rt_v, rt_l, rt_o, rt_a, rV_none, rI_some, rL_some, rR_some, rT_some, rt_bI, hIf_sL, hIf_sR, hS_sI, hS_sL, hS_sR, hS_cpI, hR_sI, hR_sL, hR_cpI, hL_sI, hL_sR, hL_cpI, hI_sL, hI_sR, hN_sI, hN_sL, hN_sR, hN_cpI, hU_sI, hU_sL, hU_sR, hU_cpI, tn0, tn1, tn2, tn3, tn4, tn5, tn6, tn7, tn8, tn9, tn10, tn11, tn12, tn13, tn14, tn15, tn16, tn17, tn18, tn19, tn20, tn21, tn22, tn23, tn24, tn25, tn26, tn27, tn28, tn29, tn30, tn31, tn32, tn33, tn34, tn35, tn36, tn37, tn38, tn39, tn40, tn41, tn42, tn43, tn44, tn45, tn46, tn47, tn48, tn49, tn50, tn51, tn52, tn53, tn54, tn55, tn56, tn57, tn58, tn59, tn60, lH_eq, true_and, and_true, hs, hn, hf, hN_nC, hU_nC, hS_nC, if_true]
  refine ⟨by omega, by omega, ?_⟩
  generalize hg : nC (sI (sI (sR h a 0 0) a 1 (-1)) a 2 0) 14 6 = h4
  have n4 : hN h4 = a + 1 + 1 := by rw [← hg]; simp only [hN_nC, hS_sI, hS_sL, hS_sR, hS_cpI, hR_sI, hR_sL, hR_cpI, hL_sI, hL_sR, hL_cpI, hI_sL, hI_sR, hN_sI, hN_sL, hN_sR, hN_cpI, hU_sI, hU_sL, hU_sR, hU_cpI, hn]
  have u4 : hU h4 = hU h + 6 := by rw [← hg]; simp only [hU_nC, hS_sI, hS_sL, hS_sR, hS_cpI, hR_sI, hR_sL, hR_cpI, hL_sI, hL_sR, hL_cpI, hI_sL, hI_sR, hN_sI, hN_sL, hN_sR, hN_cpI, hU_sI, hU_sL, hU_sR, hU_cpI]
  have s4 : hS h4 (a + 1) = (14, 6) := by rw [← hg]; simp only [hS_nC, hS_sI, hS_sL, hS_sR, hS_cpI, hR_sI, hR_sL, hR_cpI, hL_sI, hL_sR, hL_cpI, hI_sL, hI_sR, hN_sI, hN_sL, hN_sR, hN_cpI, hU_sI, hU_sL, hU_sR, hU_cpI, hn, if_true]
  have f4 : FrG h h4 (fun b => b = a) := by rw [← hg]; exact frg_nC (frg_sI (frg_sI (frg_sR (FrG.refl _ _) (fun _ => rfl)) (fun _ => rfl)) (fun _ => rfl))
  have a4 : hR h4 a 0 = 0 ∧ hI h4 a 1 = -1 ∧ hI h4 a 2 = 0 := by
    rw [← hg]
    simp only [hR_nC, hI_nC, hS_sI, hS_sL, hS_sR, hS_cpI, hR_sI, hR_sL, hR_cpI, hL_sI, hL_sR, hL_cpI, hI_sL, hI_sR, hN_sI, hN_sL, hN_sR, hN_cpI, hU_sI, hU_sL, hU_sR, hU_cpI, hn, hR_sR, hI_sI]
    grind
  refine ⟨a + 1 + 6, hU h4 + 27, by omega, by omega, ?_⟩
  refine sp_Minit (h := h4) (by omega) (a + 1) s4 n4 (fun h5 f5 n5 u5 M5 i5 z5 => ?_)
  have g5 := f5.2.2.1 a (by omega) (by omega)
  have s5 : hS h5 a = (19, 10) := by rw [f5.2.1 a (by omega), f4.2.1 a (by omega)]; exact hs
  have r50 : hR h5 a 0 = 0 := (g5.1 0).trans a4.1
  have i51 : hI h5 a 1 = -1 := (g5.2.1 1).trans a4.2.1
  have i52 : hI h5 a 2 = 0 := (g5.2.1 2).trans a4.2.2
  have f05 : FrG h h5 (fun b => b = a) := f4.trans f5 (fun c hc z => by omega)
  have c20 : Int32.toNatClampNeg 20 = 20 := rfl
  have c10 : Int32.toNatClampNeg 10 = 10 := rfl
  simp only [rV_none, rt_i, rt_b0, rt_b1, rt_v, rt_l, rt_o, rt_a, rV_none, rI_some, rL_some, rR_some, rT_some, rt_bI, hIf_sL, hIf_sR, hS_sI, hS_sL, hS_sR, hS_cpI, hR_sI, hR_sL, hR_cpI, hL_sI, hL_sR, hL_cpI, hI_sL, hI_sR, hN_sI, hN_sL, hN_sR, hN_cpI, hU_sI, hU_sL, hU_sR, hU_cpI, tn0, tn1, tn2, tn3, tn4, tn5, tn6, tn7, tn8, tn9, tn10, tn11, tn12, tn13, tn14, tn15, tn16, tn17, tn18, tn19, tn20, tn21, tn22, tn23, tn24, tn25, tn26, tn27, tn28, tn29, tn30, tn31, tn32, tn33, tn34, tn35, tn36, tn37, tn38, tn39, tn40, tn41, tn42, tn43, tn44, tn45, tn46, tn47, tn48, tn49, tn50, tn51, tn52, tn53, tn54, tn55, tn56, tn57, tn58, tn59, tn60, lH_eq, true_and, and_true, s5, n5, u5, u4, c20, c10, hN_nC, hU_nC, hS_nC, show ¬ (20 : Int32) < 0 by decide, show ¬ (10 : Int32) < 0 by decide, not_false_eq_true, show ¬ a = a + 1 + 6 by omega, show ¬ a = a + 1 + 6 + 1 by omega, show ¬ a = a + 1 + 6 + 1 + 1 by omega, show ¬ a = a + 1 + 6 + 1 + 1 + 1 by omega, if_false]
  repeat refine ⟨by first | decide | omega, ?_⟩
  have fF : FrG h5 (sI (sR (nC (sR (nC (sR (nC (sI (sR (nC (sR h5 a 3 (a + 1)) 7 20) a 4 (a + 1 + 6)) a 5 0) 1 10) a 6 (a + 1 + 6 + 1)) 1 10) a 7 (a + 1 + 6 + 1 + 1)) 1 10) a 8 (a + 1 + 6 + 1 + 1 + 1)) a 9 0) (fun b => b = a) := by
    refine frg_sI (frg_sR (frg_nC (frg_sR (frg_nC (frg_sR (frg_nC (frg_sI (frg_sR (frg_nC (frg_sR (FrG.refl _ _) ?_)) ?_) ?_)) ?_)) ?_)) ?_) ?_ <;> exact fun _ => rfl
  have MF := M5.frh fF (by omega) (by omega)
  have iF := fun c (hc : c < a + 7) (hn : c ≠ a) => (fF.2.2.1 c (by omega) hn).2.1
  refine k _ (f05.trans fF (fun c hc z => z)) ?_ ?_ ⟨⟨?_, ?_, ?_, ?_, ?_, ?_, ?_, ?_, ?_, ?_, MF⟩, ⟨by omega, by omega, by simp, by simp⟩, Or.inl ⟨?_, rfl, rfl, rfl⟩, ⟨?_, ?_, ?_, ?_⟩, ⟨MF, ⟨?_, fun j hj => absurd hj (Nat.not_lt_zero j), fun j hj => absurd hj (Nat.not_lt_zero j)⟩, fun j _ _ => ?_⟩, fun i hi z => ?_, fun k N hk => by simp at hk, fun k q hk => by simp at hk⟩ ?_ ?_
  · simp only [hS_sI, hS_sL, hS_sR, hS_cpI, hR_sI, hR_sL, hR_cpI, hL_sI, hL_sR, hL_cpI, hI_sL, hI_sR, hN_sI, hN_sL, hN_sR, hN_cpI, hU_sI, hU_sL, hU_sR, hU_cpI, hN_nC, n5]
  · simp only [hS_sI, hS_sL, hS_sR, hS_cpI, hR_sI, hR_sL, hR_cpI, hL_sI, hL_sR, hL_cpI, hI_sL, hI_sR, hN_sI, hN_sL, hN_sR, hN_cpI, hU_sI, hU_sL, hU_sR, hU_cpI, hU_nC, u5, u4]
  · rw [fF.2.1 a (by omega)]; exact s5
  · simp only [hS_sI, hS_sL, hS_sR, hS_cpI, hR_sI, hR_sL, hR_cpI, hL_sI, hL_sR, hL_cpI, hI_sL, hI_sR, hN_sI, hN_sL, hN_sR, hN_cpI, hU_sI, hU_sL, hU_sR, hU_cpI, hR_sR, hR_nC, hN_nC, n5]; grind
  · simp only [hS_sI, hS_sL, hS_sR, hS_cpI, hR_sI, hR_sL, hR_cpI, hL_sI, hL_sR, hL_cpI, hI_sL, hI_sR, hN_sI, hN_sL, hN_sR, hN_cpI, hU_sI, hU_sL, hU_sR, hU_cpI, hR_sR, hR_nC, hN_nC, n5]; grind
  · simp only [hS_sI, hS_sL, hS_sR, hS_cpI, hR_sI, hR_sL, hR_cpI, hL_sI, hL_sR, hL_cpI, hI_sL, hI_sR, hN_sI, hN_sL, hN_sR, hN_cpI, hU_sI, hU_sL, hU_sR, hU_cpI, hR_sR, hR_nC, hN_nC, n5]; grind
  · simp only [hS_sI, hS_sL, hS_sR, hS_cpI, hR_sI, hR_sL, hR_cpI, hL_sI, hL_sR, hL_cpI, hI_sL, hI_sR, hN_sI, hN_sL, hN_sR, hN_cpI, hU_sI, hU_sL, hU_sR, hU_cpI, hR_sR, hR_nC, hN_nC, n5]; grind
  · simp only [hS_sI, hS_sL, hS_sR, hS_cpI, hR_sI, hR_sL, hR_cpI, hL_sI, hL_sR, hL_cpI, hI_sL, hI_sR, hN_sI, hN_sL, hN_sR, hN_cpI, hU_sI, hU_sL, hU_sR, hU_cpI, hR_sR, hR_nC, hN_nC, n5]; grind
  · simp only [hS_sI, hS_sL, hS_sR, hS_cpI, hR_sI, hR_sL, hR_cpI, hL_sI, hL_sR, hL_cpI, hI_sL, hI_sR, hN_sI, hN_sL, hN_sR, hN_cpI, hU_sI, hU_sL, hU_sR, hU_cpI, hS_nC, hN_nC, n5]; grind
  · simp only [hS_sI, hS_sL, hS_sR, hS_cpI, hR_sI, hR_sL, hR_cpI, hL_sI, hL_sR, hL_cpI, hI_sL, hI_sR, hN_sI, hN_sL, hN_sR, hN_cpI, hU_sI, hU_sL, hU_sR, hU_cpI, hS_nC, hN_nC, n5]; grind
  · simp only [hS_sI, hS_sL, hS_sR, hS_cpI, hR_sI, hR_sL, hR_cpI, hL_sI, hL_sR, hL_cpI, hI_sL, hI_sR, hN_sI, hN_sL, hN_sR, hN_cpI, hU_sI, hU_sL, hU_sR, hU_cpI, hS_nC, hN_nC, n5]; grind
  · simp only [hS_sI, hS_sL, hS_sR, hS_cpI, hR_sI, hR_sL, hR_cpI, hL_sI, hL_sR, hL_cpI, hI_sL, hI_sR, hN_sI, hN_sL, hN_sR, hN_cpI, hU_sI, hU_sL, hU_sR, hU_cpI, hS_nC, hN_nC, n5]; grind
  · simp only [hS_sI, hS_sL, hS_sR, hS_cpI, hR_sI, hR_sL, hR_cpI, hL_sI, hL_sR, hL_cpI, hI_sL, hI_sR, hN_sI, hN_sL, hN_sR, hN_cpI, hU_sI, hU_sL, hU_sR, hU_cpI, hR_sR, hR_nC, hN_nC, n5]; grind
  · simp only [hS_sI, hS_sL, hS_sR, hS_cpI, hR_sI, hR_sL, hR_cpI, hL_sI, hL_sR, hL_cpI, hI_sL, hI_sR, hN_sI, hN_sL, hN_sR, hN_cpI, hU_sI, hU_sL, hU_sR, hU_cpI, hI_sI, hI_nC, hN_nC, n5]; grind
  · simp only [hS_sI, hS_sL, hS_sR, hS_cpI, hR_sI, hR_sL, hR_cpI, hL_sI, hL_sR, hL_cpI, hI_sL, hI_sR, hN_sI, hN_sL, hN_sR, hN_cpI, hU_sI, hU_sL, hU_sR, hU_cpI, hI_sI, hI_nC, hN_nC, n5]; grind
  · show _ = (0 : Int32)
    simp only [hS_sI, hS_sL, hS_sR, hS_cpI, hR_sI, hR_sL, hR_cpI, hL_sI, hL_sR, hL_cpI, hI_sL, hI_sR, hN_sI, hN_sL, hN_sR, hN_cpI, hU_sI, hU_sL, hU_sR, hU_cpI, hI_sI, hI_nC, hN_nC, n5]; grind
  · show _ = (0 : Int32)
    simp only [hS_sI, hS_sL, hS_sR, hS_cpI, hR_sI, hR_sL, hR_cpI, hL_sI, hL_sR, hL_cpI, hI_sL, hI_sR, hN_sI, hN_sL, hN_sR, hN_cpI, hU_sI, hU_sL, hU_sR, hU_cpI, hI_sI, hI_nC, hN_nC, n5]; grind
  · show hI _ (a + 1) 0 = 0
    rw [iF (a + 1) (by omega) (by omega)]; exact i5
  · rw [iF (a + 1 + 3) (by omega) (by omega)]; exact z5 _ j (by omega) (by omega)
  · refine absurd ?_ z
    simp only [hS_sI, hS_sL, hS_sR, hS_cpI, hR_sI, hR_sL, hR_cpI, hL_sI, hL_sR, hL_cpI, hI_sL, hI_sR, hN_sI, hN_sL, hN_sR, hN_cpI, hU_sI, hU_sL, hU_sR, hU_cpI, hR_sR, hR_nC, hN_nC, n5]; grind
  · simp only [hS_sI, hS_sL, hS_sR, hS_cpI, hR_sI, hR_sL, hR_cpI, hL_sI, hL_sR, hL_cpI, hI_sL, hI_sR, hN_sI, hN_sL, hN_sR, hN_cpI, hU_sI, hU_sL, hU_sR, hU_cpI, hR_sR, hR_nC, hN_nC, n5]; grind
  · intro j
    simp only [hS_sI, hS_sL, hS_sR, hS_cpI, hR_sI, hR_sL, hR_cpI, hL_sI, hL_sR, hL_cpI, hI_sL, hI_sR, hN_sI, hN_sL, hN_sR, hN_cpI, hU_sI, hU_sL, hU_sR, hU_cpI, hR_sR, hR_nC, hN_nC, n5]; grind
theorem kpN_nl {h : AH} {t p : Nat} (H : nlT h t p) : ∀ n, n ≤ 20 → kpN (hR h (t + 7)) n = n - p
  | 0, _ => by simp [kpN]
  | n + 1, hn => by
    have ih := kpN_nl H n (by omega)
    have q := H.2 n (by omega)
    unfold kpN
    rw [ih]
    by_cases c : n < p
    · rw [if_neg (q.mpr c)]; omega
    · rw [if_pos (Decidable.byContradiction (fun z => c (q.mp z)))]; omega
theorem nlT.bec {h h' : AH} {t p nr nw : Nat} {A : PC} {fo x : Int32} {M : PC} {ps : List PC} {ns : List (Nat × Nat × Int32)} (H : nlT h t p) (HT : TownIs h' t (nr, nw, A, fo, x, M, ps, ns)) (e : ∀ j, ps.length ≤ j → hR h' (t + 7) j = hR h (t + 7) j) : nlT h' t (max p ps.length) := by
  have hl : ps.length ≤ 20 := HT.2.1.2.2.1
  refine ⟨by have := H.1; omega, fun i hi => ?_⟩
  by_cases c : i < ps.length
  · have z := (HT.2.2.2.2.2.2.1 i _ (List.getElem?_eq_getElem c)).1
    exact ⟨fun _ => by omega, fun _ => z⟩
  · rw [e i (by omega)]
    exact (H.2 i hi).trans ⟨fun z => by omega, fun z => by omega⟩
theorem TS.new {h h' : AH} {x s t : Nat} {w w' : Nat → Option TW} {pz : Nat → Nat} (wf : wfA h) (hx : x + 145 ≤ hN h) (H : TS h x w pz) (hs : s < 4) (ht : hN h = t) (f : FrG h h' (fun c => c = x + 19)) (e19 : ∀ j, hR h' (x + 19) j = if j = s then t else hR h (x + 19) j) (HT : TownIs h' t tw0) (hh : hR h' t 0 = 0) (np : ∀ j, hR h' (t + 7) j = 0) (w1 : w' (s + 1) = some tw0) (w2 : ∀ k, k ≠ s + 1 → w' k = w k) : TS h' x w' (upN pz (s + 1) 0) := by
  have ets : twR h' x (s + 1) = t := (e19 s).trans (if_pos rfl)
  have et : ∀ k, k ≠ s + 1 → twR h' x k = twR h x k := fun k hk => by
    cases k with
    | zero => rfl
    | succ r => exact (e19 r).trans (if_neg (by omega))
  obtain ⟨t1, t2, t3, t4⟩ := H
  have oth : ∀ k U, k ≤ 4 → w k = some U → TownIs h' (twR h x k) U ∧ dyn h' x (twR h x k) U ∧ nlT h' (twR h x k) (pz k) ∧ (∀ j, hR h' (twR h x k + 7) j = hR h (twR h x k + 7) j) ∧ twR h x k + 10 < hN h ∧ BfOk h (twR h x k) := fun k U h1 e => by
    have q := t3 k U h1 e
    have lt := q.2.1.lt wf
    have lo : twR h x k = x + 8 ∨ x + 145 ≤ twR h x k := by
      rcases q.1 with e | e
      · left; rw [e]; rfl
      · exact Or.inr e
    have a := q.2.1.frd wf q.2.2.1 f (fun b h1 h2 z => by omega) (fun c hc z => by omega)
    exact ⟨a.1, a.2, q.2.2.2.frg f (by omega) (fun z => by omega), (f.2.2.1 _ (by omega) (fun z => by omega)).1, lt, q.2.1.tw.2⟩
  refine ⟨by rw [f.2.1 (x + 19) (by omega)]; exact t1, fun k h1 e => ?_, fun k U h1 e => ?_, fun k k' U U' h1 h1' e e' hn => ?_⟩
  · have c : k ≠ s + 1 := fun z => by rw [z, w1] at e; cases e
    rw [et k c]
    exact t2 k h1 (by rw [← w2 k c]; exact e)
  · by_cases c : k = s + 1
    · subst c
      rw [w1] at e
      cases e
      rw [ets, upN_eq]
      exact ⟨Or.inr (by omega), HT, ⟨fun z => absurd hh z, fun i _ z => absurd (np i) z⟩, ⟨by omega, fun i _ => ⟨fun z => absurd (np i) z, fun z => absurd z (Nat.not_lt_zero i)⟩⟩⟩
    · rw [w2 k c] at e
      rw [et k c, upN_ne c]
      have o := oth k U h1 e
      exact ⟨(t3 k U h1 e).1, o.1, o.2.1, o.2.2.1⟩
  · by_cases c : k = s + 1
    · subst c
      have c' : k' ≠ s + 1 := fun z => hn z.symm
      rw [w2 k' c'] at e'
      have o := oth k' U' h1' e'
      rw [ets, et k' c']
      exact ⟨by have := o.2.2.2.2.1; omega, fun i _ z => absurd (np i) z⟩
    · rw [w2 k c] at e
      have o := oth k U h1 e
      by_cases c' : k' = s + 1
      · subst c'
        rw [ets, et k c]
        refine ⟨by have := o.2.2.2.2.1; omega, fun i hi z => ?_⟩
        rw [o.2.2.2.1] at z ⊢
        have := (o.2.2.2.2.2 i hi z).1.lt wf
        exact ⟨by omega, fun l hl => by rw [np]; exact z⟩
      · rw [w2 k' c'] at e'
        have o' := oth k' U' h1' e'
        have r := t4 k k' U U' h1 h1' e e' hn
        rw [et k c, et k' c']
        refine ⟨r.1, fun i hi z => ?_⟩
        rw [o.2.2.2.1] at z ⊢
        exact ⟨(r.2 i hi z).1, fun l hl => by rw [o'.2.2.2.1]; exact (r.2 i hi z).2 l hl⟩
theorem CW.new {pz : PZT} {h h' : AH} {x s t : Nat} {W W' : WS} (H : CW pz h x W) (hs : s < 4) (ht : hN h = t) (f : FrG h h' (fun c => c = x + 19)) (e19 : ∀ j, hR h' (x + 19) j = if j = s then t else hR h (x + 19) j) (HT : TownIs h' t tw0) (hh : hR h' t 0 = 0) (np : ∀ j, hR h' (t + 7) j = 0) (w1 : wT W' (s + 1) = some tw0) (w2 : ∀ k, k ≠ s + 1 → wT W' k = wT W k) (e1 : W'.2.1 = W.2.1) (e2 : W'.2.2.1 = W.2.2.1) : CW (upN pz.1 (s + 1) 0, pz.2) h' x W' := by
  have HS := H.ts
  obtain ⟨H1, -, H4, H5, -, H7, H8, -, H10⟩ := H
  have wf := H1.1.1
  have hx := H1.1.2.1
  refine CW.of_ts (H1.frg f (fun z => by omega)) ?_ ?_ (H7.frg f hx (fun c h1 h2 z => by omega)) (H8.frg hx f (fun z => by omega) (fun z => by omega)) (H10.frg hx f (fun c h1 h2 z => by omega)) (HS.new wf hx hs ht f e19 HT hh np w1 w2)
  · rw [e1]
    exact H4.frg wf hx f (fun z => by omega) (fun z => by omega) (fun i c hc b h1 h2 z => by have := H4.2.2 i c hc; omega)
  · rw [e2]
    exact H5.frg hx f (fun z => by omega) (fun z => by omega)
/-- a town becomes another: the class's state -/
theorem CW.bec {pz : PZT} {h h' : AH} {x k0 k1 nr nw : Nat} {A M : PC} {fo y : Int32} {ps : List PC} {ns : List (Nat × Nat × Int32)} {W W' : WS} {T : TW} (H : CW pz h x W) (hk : k0 ≤ 4) (hk1 : k1 ≤ 4) (e0 : wT W k0 = some T) (e1 : wT W k1 = some (nr, nw, A, fo, y, M, ps, ns)) (f : FrG h h' (blkS h (twR h x k0))) (bn : bfNew h h' (twR h x k0)) (g7 : ∀ j, ps.length ≤ j → hR h' (twR h x k0 + 7) j = hR h (twR h x k0 + 7) j) (r0 : hR h' (twR h x k0) 0 = hR h (twR h x k1) 0) (HT : TownIs h' (twR h x k0) (nr, nw, A, fo, y, M, ps, ns)) (w1 : wT W' k0 = some (nr, nw, A, fo, y, M, ps, ns)) (w2 : ∀ k, k ≠ k0 → wT W' k = wT W k) (q1 : W'.2.1 = W.2.1) (q2 : W'.2.2.1 = W.2.2.1) : CW (upN pz.1 k0 (max (pz.1 k0) ps.length), pz.2) h' x W' := by
  have HS := H.ts
  have o0 := HS.2.2.1 k0 T hk e0
  have o1 := HS.2.2.1 k1 _ hk1 e1
  refine H.mod hk e0 f bn HT ?_ (o0.2.2.2.bec HT g7) w1 w2 q1 q2
  rw [r0]
  exact o1.2.2.1.1
def igP (p : Nat → Nat) (im : Nat → Option TW) (s : Nat) : Nat := match im s with
  | none => 0
  | some _ => p (s + 1)
def igC (p : Nat → Nat) (im : Nat → Option TW) (n : Nat) (s : Int32) : Nat := if 0 ≤ s ∧ s ≤ 3 then (match im s.toNatClampNeg with
  | none => 11
  | some _ => 0) + 6 * (n - igP p im s.toNatClampNeg) else 0
def igV (p : Nat → Nat) (im : Nat → Option TW) (n : Nat) (s : Int32) : Nat := if 0 ≤ s ∧ s ≤ 3 then (match im s.toNatClampNeg with
  | none => 93
  | some _ => 0) + 33 * (n - igP p im s.toNatClampNeg) else 0
def igZ (p : Nat → Nat) (im : Nat → Option TW) (n : Nat) (s : Int32) : Nat → Nat := if 0 ≤ s ∧ s ≤ 3 then upN p (s.toNatClampNeg + 1) (max (igP p im s.toNatClampNeg) n) else p
theorem upN_up (p : Nat → Nat) (k u v : Nat) : upN (upN p k u) k v = upN p k v := by
  funext i
  unfold upN
  split <;> rfl
theorem c_image {pz : PZT} {d : Nat} {h : AH} {Q : Option Value → AH → Prop} (hd : 9 ≤ d) (x nr nw : Nat) (A M : PC) (fo y : Int32) (ps : List PC) (ns : List (Nat × Nat × Int32)) (cls : List (List (List (Nat × Nat) × List (Nat × Nat)))) (tp : List Int32) (im : Nat → Option TW) (s : Int32) (H : CW pz h x ((nr, nw, A, fo, y, M, ps, ns), cls, tp, im)) (k : ∀ h', hN h' = hN h + igC pz.1 im ps.length s → hU h' = hU h + igV pz.1 im ps.length s → CW (igZ pz.1 im ps.length s, pz.2) h' x ((nr, nw, A, fo, y, M, ps, ns), cls, tp, (oImage (nr, nw, A, fo, y, M, ps, ns) im s).2) → Q (some (.int (oImage (nr, nw, A, fo, y, M, ps, ns) im s).1)) h') : Calls d nX11_image [.ref x, .int s] h (hN h + igC pz.1 im ps.length s) (hU h + igV pz.1 im ps.length s) Q := by
  obtain ⟨e, rfl⟩ : ∃ e, d = e + 1 := ⟨d - 1, by omega⟩
  have HS := H.ts
  obtain ⟨s0, p4, T0, HH, HM, b1, b2⟩ := H.un
  have p5 : hR h x 5 = x + 19 := H.1.2.2.2.2.2.2.1
  have hl : ps.length ≤ 20 := H.2.1.1.2.1.2.2.1
  have wf := H.1.1.1
  have hx := H.1.1.2.1
  have q19 := HS.1
  refine wX11_image (by omega) (by omega) (by omega) x s ?_
  refine sp_isWithin (by omega) s 0 3 ?_
  simp only [rI_some, bI0, rt_i, rt_b0, rt_b1, rt_v, rt_l, rt_o, rt_a, rV_none, rI_some, rL_some, rR_some, rT_some, rt_bI, hIf_sL, hIf_sR, hS_sI, hS_sL, hS_sR, hS_cpI, hR_sI, hR_sL, hR_cpI, hL_sI, hL_sR, hL_cpI, hI_sL, hI_sR, hN_sI, hN_sL, hN_sR, hN_cpI, hU_sI, hU_sL, hU_sR, hU_cpI, tn0, tn1, tn2, tn3, tn4, tn5, tn6, tn7, tn8, tn9, tn10, tn11, tn12, tn13, tn14, tn15, tn16, tn17, tn18, tn19, tn20, tn21, tn22, tn23, tn24, tn25, tn26, tn27, tn28, tn29, tn30, tn31, tn32, tn33, tn34, tn35, tn36, tn37, tn38, tn39, tn40, tn41, tn42, tn43, tn44, tn45, tn46, tn47, tn48, tn49, tn50, tn51, tn52, tn53, tn54, tn55, tn56, tn57, tn58, tn59, tn60, lH_eq, true_and, and_true, s0, p4, p5, q19]
  refine ⟨fun z => ?_, fun z => ?_⟩
  · have z := Decidable.not_not.mp z
    obtain ⟨i, hi, rfl⟩ := rg_of (n := 3) rfl (by decide) z
    have ci : (nI i).toNatClampNeg = i := nI_clamp (by omega)
    have e : oImage (nr, nw, A, fo, y, M, ps, ns) im (nI i) = (M 0 0, fun j => if j = i then some (nr, nw, A, fo, y, M, ps, ns) else im j) := by unfold oImage; rw [ci, if_pos z]
    have eZ : igZ pz.1 im ps.length (nI i) = upN pz.1 (i + 1) (max (igP pz.1 im i) ps.length) := by unfold igZ; rw [ci, if_pos z]
    rw [e, eZ] at k
    simp only [ci, vp_in_nI (show i < 4 by omega) (show 4 < 2 ^ 31 by decide), true_and]
    refine ⟨by decide, by decide, fun u => ⟨by decide, by decide, ?_⟩, fun u => ?_⟩
    · cases hm : im i with
      | none => exact absurd (HS.2.1 (i + 1) (by omega) hm) u
      | some U =>
        have hmw : wT ((nr, nw, A, fo, y, M, ps, ns), cls, tp, im) (i + 1) = some U := hm
        have o := HS.2.2.1 (i + 1) U (by omega) hmw
        have o0 := HS.2.2.1 0 (nr, nw, A, fo, y, M, ps, ns) (by omega) rfl
        have r1 := HS.2.2.2 (i + 1) 0 U (nr, nw, A, fo, y, M, ps, ns) (by omega) (by omega) hmw rfl (by omega)
        have r2 := HS.2.2.2 0 (i + 1) (nr, nw, A, fo, y, M, ps, ns) U (by omega) (by omega) rfl hmw (by omega)
        have ek := kpN_nl o.2.2.2 ps.length hl
        have ep : igP pz.1 im i = pz.1 (i + 1) := by unfold igP; rw [hm]
        have eC : igC pz.1 im ps.length (nI i) = 6 * (ps.length - pz.1 (i + 1)) := by unfold igC; rw [ci, if_pos z, ep, hm]; exact Nat.zero_add _
        have eV : igV pz.1 im ps.length (nI i) = 33 * (ps.length - pz.1 (i + 1)) := by unfold igV; rw [ci, if_pos z, ep, hm]; exact Nat.zero_add _
        rw [ep, eC, eV] at k
        rw [eC, eV]
        have t0 : TwnAt h (hR h (x + 19) i) := o.2.1.tw.1
        refine ⟨by rw [twq_0 t0], hN h + 6 * kpN (hR h (hR h (x + 19) i + 7)) ps.length, hU h + 33 * kpN (hR h (hR h (x + 19) i + 7)) ps.length, ?_, ?_, ?_⟩
        · have ek : kpN (hR h (hR h (x + 19) i + 7)) ps.length = ps.length - pz.1 (i + 1) := ek
          rw [ek]; omega
        · have ek : kpN (hR h (hR h (x + 19) i + 7)) ps.length = ps.length - pz.1 (i + 1) := ek
          rw [ek]; omega
        refine sp_Tbecome (by omega) (hR h (x + 19) i) (x + 8) U nr nw A fo y M ps ns wf o.2.1 o0.2.1 r1.1 r1.2 r2.2 (fun h' f n1 n2 bn g7 g0 g1 HT => ?_)
        have ek : kpN (hR h (hR h (x + 19) i + 7)) ps.length = ps.length - pz.1 (i + 1) := ek
        have C := CW.bec (W' := ((nr, nw, A, fo, y, M, ps, ns), cls, tp, fun j => if j = i then some (nr, nw, A, fo, y, M, ps, ns) else im j)) (k0 := i + 1) (k1 := 0) H (by omega) (by omega) hmw rfl f bn g7 g1 HT (if_pos rfl) (fun k hk => by
          cases k with
          | zero => rfl
          | succ s => exact if_neg (by omega)) rfl rfl
        obtain ⟨s0', p4', T0', -, HM', -, -⟩ := C.un
        have m0 : hI h' (x + 8 + 1) 0 = M 0 0 := HM'.2.1.1
        simp only [rV_none, rt_i, rt_b0, rt_b1, rt_v, rt_l, rt_o, rt_a, rV_none, rI_some, rL_some, rR_some, rT_some, rt_bI, hIf_sL, hIf_sR, hS_sI, hS_sL, hS_sR, hS_cpI, hR_sI, hR_sL, hR_cpI, hL_sI, hL_sR, hL_cpI, hI_sL, hI_sR, hN_sI, hN_sL, hN_sR, hN_cpI, hU_sI, hU_sL, hU_sR, hU_cpI, tn0, tn1, tn2, tn3, tn4, tn5, tn6, tn7, tn8, tn9, tn10, tn11, tn12, tn13, tn14, tn15, tn16, tn17, tn18, tn19, tn20, tn21, tn22, tn23, tn24, tn25, tn26, tn27, tn28, tn29, tn30, tn31, tn32, tn33, tn34, tn35, tn36, tn37, tn38, tn39, tn40, tn41, tn42, tn43, tn44, tn45, tn46, tn47, tn48, tn49, tn50, tn51, tn52, tn53, tn54, tn55, tn56, tn57, tn58, tn59, tn60, lH_eq, true_and, and_true, s0', p4', twq_0 T0', twq_1 T0', HM'.1.1, m0]
        rw [ek] at n1 n2
        exact ⟨by omega, by omega, k h' (by omega) (by omega) C⟩
    · cases hm : im i with
      | some U =>
        have hmw : wT ((nr, nw, A, fo, y, M, ps, ns), cls, tp, im) (i + 1) = some U := hm
        have o := HS.2.2.1 (i + 1) U (by omega) hmw
        have : x + 145 ≤ hR h (x + 19) i := o.1.resolve_left (by omega)
        omega
      | none =>
        have ep : igP pz.1 im i = 0 := by unfold igP; rw [hm]
        have eC : igC pz.1 im ps.length (nI i) = 11 + 6 * ps.length := by unfold igC; rw [ci, if_pos z, ep, hm]; rfl
        have eV : igV pz.1 im ps.length (nI i) = 93 + 33 * ps.length := by unfold igV; rw [ci, if_pos z, ep, hm]; rfl
        rw [ep, eC, eV] at k
        rw [eC, eV]
        have hf : fN 9 = 10 := rfl
        simp only [hf, hS_nC, if_true, true_and]
        refine ⟨by omega, by omega, hN h + 11, hU (nC h 19 10) + 83, by omega, by have : hU (nC h 19 10) = hU h + 10 := rfl; omega, ?_⟩
        refine sp_Tinit (h := nC h 19 10) (by omega) (hN h) (by rw [hS_nC, if_pos rfl]) rfl (fun h1 f1 n1 n2 T1 r1 z1 => ?_)
        have f01 : FrG h h1 (fun _ => False) := (frg_nC (FrG.refl h _)).trans f1 (fun c hc y => by omega)
        have g19 := f01.2.2.1 (x + 19) (by omega) (fun z => z)
        have s19 : hS h1 (x + 19) = (6, 4) := by rw [f01.2.1 (x + 19) (by omega)]; exact q19
        have st : hS h1 (hN h) = (19, 10) := twq_0 T1.1
        have hq : qCl 6 = 9 := rfl
        simp only [rV_none, rt_i, rt_b0, rt_b1, rt_v, rt_l, rt_o, rt_a, rV_none, rI_some, rL_some, rR_some, rT_some, rt_bI, hIf_sL, hIf_sR, hS_sI, hS_sL, hS_sR, hS_cpI, hR_sI, hR_sL, hR_cpI, hL_sI, hL_sR, hL_cpI, hI_sL, hI_sR, hN_sI, hN_sL, hN_sR, hN_cpI, hU_sI, hU_sL, hU_sR, hU_cpI, tn0, tn1, tn2, tn3, tn4, tn5, tn6, tn7, tn8, tn9, tn10, tn11, tn12, tn13, tn14, tn15, tn16, tn17, tn18, tn19, tn20, tn21, tn22, tn23, tn24, tn25, tn26, tn27, tn28, tn29, tn30, tn31, tn32, tn33, tn34, tn35, tn36, tn37, tn38, tn39, tn40, tn41, tn42, tn43, tn44, tn45, tn46, tn47, tn48, tn49, tn50, tn51, tn52, tn53, tn54, tn55, tn56, tn57, tn58, tn59, tn60, lH_eq, true_and, and_true, s19, st, hq, ci]
        refine ⟨⟨by decide, by decide⟩, vp_in_nI (by omega) (by decide), ?_⟩
        have f02 : FrG h (sR h1 (x + 19) i (hN h)) (fun c => c = x + 19) := frg_sR (f01.mono (fun _ _ z => z.elim)) (fun _ => rfl)
        have e19 : ∀ j, hR (sR h1 (x + 19) i (hN h)) (x + 19) j = if j = i then hN h else hR h (x + 19) j := fun j => by rw [hR_sR, if_pos rfl, g19.1]
        have f12 : FrG h1 (sR h1 (x + 19) i (hN h)) (fun c => c = x + 19) := frg_sR (FrG.refl _ _) (fun _ => rfl)
        have T2 : TownIs (sR h1 (x + 19) i (hN h)) (hN h) tw0 := T1.frg (f01.2.2.2 wf) f12 (fun b h1 h2 z => by omega) (fun z => absurd r1 z) (fun i _ z => absurd (z1 i) z)
        have C2 := CW.new (W' := ((nr, nw, A, fo, y, M, ps, ns), cls, tp, fun j => if j = i then some tw0 else im j)) (s := i) H (by omega) rfl f02 e19 T2 (by rw [hR_sR, if_neg (by omega)]; exact r1) (fun j => by rw [hR_sR, if_neg (by omega)]; exact z1 j) (if_pos rfl) (fun k hk => by
          cases k with
          | zero => rfl
          | succ s => exact if_neg (by omega)) rfl rfl
        generalize hg : sR h1 (x + 19) i (hN h) = h2 at *
        have n12 : hN h2 = hN h + 11 := by rw [← hg]; exact n1
        have u12 : hU h2 = hU h + 93 := by rw [← hg]; have : hU (nC h 19 10) = hU h + 10 := rfl; show hU h1 = _; omega
        have HS2 := C2.ts
        obtain ⟨s02, p42, T02, -, HM2, -, -⟩ := C2.un
        have p52 : hR h2 x 5 = x + 19 := C2.1.2.2.2.2.2.2.1
        have e1i : hR h2 (x + 19) i = hN h := (e19 i).trans (if_pos rfl)
        have hmw : wT ((nr, nw, A, fo, y, M, ps, ns), cls, tp, fun j => if j = i then some tw0 else im j) (i + 1) = some tw0 := if_pos rfl
        have o := HS2.2.2.1 (i + 1) tw0 (by omega) hmw
        have o0 := HS2.2.2.1 0 (nr, nw, A, fo, y, M, ps, ns) (by omega) rfl
        have q1 := HS2.2.2.2 (i + 1) 0 tw0 (nr, nw, A, fo, y, M, ps, ns) (by omega) (by omega) hmw rfl (by omega)
        have q2 := HS2.2.2.2 0 (i + 1) (nr, nw, A, fo, y, M, ps, ns) tw0 (by omega) (by omega) rfl hmw (by omega)
        have ek := kpN_nl o.2.2.2 ps.length hl
        have et : twR h2 x (i + 1) = hN h := e1i
        rw [et] at o q1 q2 ek
        have ez : (upN pz.1 (i + 1) 0, pz.2).1 (i + 1) = 0 := upN_eq _ _ _
        rw [ez] at ek
        have ek : kpN (hR h2 (hN h + 7)) ps.length = ps.length := ek
        have sE : ∀ c, hS h1 c = hS h2 c := fun c => by rw [← hg, hS_sR]
        simp only [rt_i, rt_b0, rt_b1, rt_v, rt_l, rt_o, rt_a, rV_none, rI_some, rL_some, rR_some, rT_some, rt_bI, hIf_sL, hIf_sR, hS_sI, hS_sL, hS_sR, hS_cpI, hR_sI, hR_sL, hR_cpI, hL_sI, hL_sR, hL_cpI, hI_sL, hI_sR, hN_sI, hN_sL, hN_sR, hN_cpI, hU_sI, hU_sL, hU_sR, hU_cpI, tn0, tn1, tn2, tn3, tn4, tn5, tn6, tn7, tn8, tn9, tn10, tn11, tn12, tn13, tn14, tn15, tn16, tn17, tn18, tn19, tn20, tn21, tn22, tn23, tn24, tn25, tn26, tn27, tn28, tn29, tn30, tn31, tn32, tn33, tn34, tn35, tn36, tn37, tn38, tn39, tn40, tn41, tn42, tn43, tn44, tn45, tn46, tn47, tn48, tn49, tn50, tn51, tn52, tn53, tn54, tn55, tn56, tn57, tn58, tn59, tn60, lH_eq, true_and, and_true, sE, s02, p42, p52, HS2.1, ci, e1i, vp_in_nI (show i < 4 by omega) (show 4 < 2 ^ 31 by decide), twq_0 o.2.1.tw.1]
        refine ⟨by decide, by decide, hN h2 + 6 * kpN (hR h2 (hN h + 7)) ps.length, hU h2 + 33 * kpN (hR h2 (hN h + 7)) ps.length, by rw [ek]; omega, by rw [ek]; omega, ?_⟩
        refine sp_Tbecome (h := h2) (by omega) (hN h) (x + 8) tw0 nr nw A fo y M ps ns C2.1.1.1 o.2.1 o0.2.1 q1.1 q1.2 q2.2 (fun h' f n1 n2 bn g7 g0 g1 HT => ?_)
        have C := CW.bec (W' := ((nr, nw, A, fo, y, M, ps, ns), cls, tp, fun j => if j = i then some (nr, nw, A, fo, y, M, ps, ns) else im j)) (k0 := i + 1) (k1 := 0) C2 (by omega) (by omega) hmw rfl (by rw [et]; exact f) (by rw [et]; exact bn) (by rw [et]; exact g7) (by rw [et]; exact g1) (by rw [et]; exact HT) (if_pos rfl) (fun k hk => by
          cases k with
          | zero => rfl
          | succ s => show (if s = i then _ else im s) = (if s = i then _ else im s); rw [if_neg (by omega), if_neg (by omega)]) rfl rfl
        rw [ez] at C
        have C' : CW (upN pz.1 (i + 1) (max 0 ps.length), pz.2) h' x ((nr, nw, A, fo, y, M, ps, ns), cls, tp, fun j => if j = i then some (nr, nw, A, fo, y, M, ps, ns) else im j) := by
          have := C
          rw [upN_up] at this
          exact this
        obtain ⟨s0', p4', T0', -, HM', -, -⟩ := C'.un
        have m0 : hI h' (x + 8 + 1) 0 = M 0 0 := HM'.2.1.1
        simp only [rV_none, rt_i, rt_b0, rt_b1, rt_v, rt_l, rt_o, rt_a, rV_none, rI_some, rL_some, rR_some, rT_some, rt_bI, hIf_sL, hIf_sR, hS_sI, hS_sL, hS_sR, hS_cpI, hR_sI, hR_sL, hR_cpI, hL_sI, hL_sR, hL_cpI, hI_sL, hI_sR, hN_sI, hN_sL, hN_sR, hN_cpI, hU_sI, hU_sL, hU_sR, hU_cpI, tn0, tn1, tn2, tn3, tn4, tn5, tn6, tn7, tn8, tn9, tn10, tn11, tn12, tn13, tn14, tn15, tn16, tn17, tn18, tn19, tn20, tn21, tn22, tn23, tn24, tn25, tn26, tn27, tn28, tn29, tn30, tn31, tn32, tn33, tn34, tn35, tn36, tn37, tn38, tn39, tn40, tn41, tn42, tn43, tn44, tn45, tn46, tn47, tn48, tn49, tn50, tn51, tn52, tn53, tn54, tn55, tn56, tn57, tn58, tn59, tn60, lH_eq, true_and, and_true, s0', p4', twq_0 T0', twq_1 T0', HM'.1.1, m0]
        rw [ek] at n1 n2
        exact ⟨by omega, by omega, k h' (by omega) (by omega) C'⟩
  · have e : oImage (nr, nw, A, fo, y, M, ps, ns) im s = (-1, im) := by unfold oImage; rw [if_neg z]
    have eC : igC pz.1 im ps.length s = 0 := by unfold igC; rw [if_neg z]
    have eV : igV pz.1 im ps.length s = 0 := by unfold igV; rw [if_neg z]
    have eZ : igZ pz.1 im ps.length s = pz.1 := by unfold igZ; rw [if_neg z]
    rw [e, eC, eV, eZ] at k
    rw [eC, eV]
    exact ⟨rfl, rfl, k h rfl rfl H⟩
def bkL (im : Nat → Option TW) (s : Int32) : Nat := if 0 ≤ s ∧ s ≤ 3 then (match im s.toNatClampNeg with
  | none => 0
  | some T => T.2.2.2.2.2.2.1.length) else 0
theorem c_back {pz : PZT} {d : Nat} {h : AH} {Q : Option Value → AH → Prop} (hd : 9 ≤ d) (x : Nat) (T : TW) (cls : List (List (List (Nat × Nat) × List (Nat × Nat)))) (tp : List Int32) (im : Nat → Option TW) (s : Int32) (H : CW pz h x (T, cls, tp, im)) (k : ∀ h', hN h' = hN h + 6 * (bkL im s - pz.1 0) → hU h' = hU h + 33 * (bkL im s - pz.1 0) → CW (upN pz.1 0 (max (pz.1 0) (bkL im s)), pz.2) h' x ((oBack T im s).2, cls, tp, im) → Q (some (.int (oBack T im s).1)) h') : Calls d nX11_back [.ref x, .int s] h (hN h + 6 * (bkL im s - pz.1 0)) (hU h + 33 * (bkL im s - pz.1 0)) Q := by
  obtain ⟨e, rfl⟩ : ∃ e, d = e + 1 := ⟨d - 1, by omega⟩
  have HS := H.ts
  have s0 : hS h x = (21, 11) := H.1.2.1
  have p4 : hR h x 4 = x + 8 := H.1.2.2.2.2.2.1
  have p5 : hR h x 5 = x + 19 := H.1.2.2.2.2.2.2.1
  have wf := H.1.1.1
  have q19 := HS.1
  have o0 := HS.2.2.1 0 T (by omega) rfl
  have T0 : TwnAt h (x + 8) := o0.2.1.tw.1
  have ez : upN pz.1 0 (max (pz.1 0) 0) = pz.1 := by
    funext i
    unfold upN
    split
    · rename_i e; rw [e]; exact Nat.max_eq_left (Nat.zero_le _)
    · rfl
  refine wX11_back (by omega) (by omega) (by omega) x s ?_
  refine sp_isWithin (by omega) s 0 3 ?_
  simp only [rI_some, bI0, rt_i, rt_b0, rt_b1, rt_v, rt_l, rt_o, rt_a, rV_none, rI_some, rL_some, rR_some, rT_some, rt_bI, hIf_sL, hIf_sR, hS_sI, hS_sL, hS_sR, hS_cpI, hR_sI, hR_sL, hR_cpI, hL_sI, hL_sR, hL_cpI, hI_sL, hI_sR, hN_sI, hN_sL, hN_sR, hN_cpI, hU_sI, hU_sL, hU_sR, hU_cpI, tn0, tn1, tn2, tn3, tn4, tn5, tn6, tn7, tn8, tn9, tn10, tn11, tn12, tn13, tn14, tn15, tn16, tn17, tn18, tn19, tn20, tn21, tn22, tn23, tn24, tn25, tn26, tn27, tn28, tn29, tn30, tn31, tn32, tn33, tn34, tn35, tn36, tn37, tn38, tn39, tn40, tn41, tn42, tn43, tn44, tn45, tn46, tn47, tn48, tn49, tn50, tn51, tn52, tn53, tn54, tn55, tn56, tn57, tn58, tn59, tn60, lH_eq, true_and, and_true, s0, p4, p5, q19, twq_0 T0]
  refine ⟨fun z => ?_, fun z => ?_⟩
  · have e : oBack T im s = (-1, T) := by unfold oBack; rw [if_neg z]
    have eL : bkL im s = 0 := by unfold bkL; rw [if_neg z]
    rw [e, eL, ez] at k
    rw [eL]
    exact ⟨by omega, by omega, k h (by omega) (by omega) H⟩
  · have z := Decidable.not_not.mp z
    obtain ⟨i, hi, rfl⟩ := rg_of (n := 3) rfl (by decide) z
    have ci : (nI i).toNatClampNeg = i := nI_clamp (by omega)
    simp only [ci, vp_in_nI (show i < 4 by omega) (show 4 < 2 ^ 31 by decide), true_and]
    refine ⟨by decide, by decide, fun u => ?_, fun u => ?_⟩
    · cases hm : im i with
      | none => exact absurd (HS.2.1 (i + 1) (by omega) hm) u
      | some U =>
        obtain ⟨nr, nw, A, fo, y, M, ps, ns⟩ := U
        have e : oBack T im (nI i) = (M 0 0, (nr, nw, A, fo, y, M, ps, ns)) := by unfold oBack; rw [if_pos z, ci, hm]
        have eL : bkL im (nI i) = ps.length := by unfold bkL; rw [if_pos z, ci, hm]
        rw [e, eL] at k
        rw [eL]
        have hmw : wT (T, cls, tp, im) (i + 1) = some (nr, nw, A, fo, y, M, ps, ns) := hm
        have o := HS.2.2.1 (i + 1) _ (by omega) hmw
        have r1 := HS.2.2.2 0 (i + 1) T _ (by omega) (by omega) rfl hmw (by omega)
        have r2 := HS.2.2.2 (i + 1) 0 _ T (by omega) (by omega) hmw rfl (by omega)
        have hl : ps.length ≤ 20 := o.2.1.2.1.2.2.1
        have ek : kpN (hR h (x + 8 + 7)) ps.length = ps.length - pz.1 0 := kpN_nl o0.2.2.2 ps.length hl
        refine ⟨by decide, by decide, hN h + 6 * kpN (hR h (x + 8 + 7)) ps.length, hU h + 33 * kpN (hR h (x + 8 + 7)) ps.length, by rw [ek]; omega, by rw [ek]; omega, ?_⟩
        refine sp_Tbecome (by omega) (x + 8) (hR h (x + 19) i) T nr nw A fo y M ps ns wf o0.2.1 o.2.1 r1.1 r1.2 r2.2 (fun h' f n1 n2 bn g7 g0 g1 HT => ?_)
        have C := CW.bec (W' := ((nr, nw, A, fo, y, M, ps, ns), cls, tp, im)) (k0 := 0) (k1 := i + 1) H (by omega) (by omega) rfl hmw f bn g7 g1 HT rfl (fun k hk => by
          cases k with
          | zero => exact absurd rfl hk
          | succ s => rfl) rfl rfl
        obtain ⟨s0', p4', T0', -, HM', -, -⟩ := C.un
        have m0 : hI h' (x + 8 + 1) 0 = M 0 0 := HM'.2.1.1
        simp only [rV_none, rt_i, rt_b0, rt_b1, rt_v, rt_l, rt_o, rt_a, rV_none, rI_some, rL_some, rR_some, rT_some, rt_bI, hIf_sL, hIf_sR, hS_sI, hS_sL, hS_sR, hS_cpI, hR_sI, hR_sL, hR_cpI, hL_sI, hL_sR, hL_cpI, hI_sL, hI_sR, hN_sI, hN_sL, hN_sR, hN_cpI, hU_sI, hU_sL, hU_sR, hU_cpI, tn0, tn1, tn2, tn3, tn4, tn5, tn6, tn7, tn8, tn9, tn10, tn11, tn12, tn13, tn14, tn15, tn16, tn17, tn18, tn19, tn20, tn21, tn22, tn23, tn24, tn25, tn26, tn27, tn28, tn29, tn30, tn31, tn32, tn33, tn34, tn35, tn36, tn37, tn38, tn39, tn40, tn41, tn42, tn43, tn44, tn45, tn46, tn47, tn48, tn49, tn50, tn51, tn52, tn53, tn54, tn55, tn56, tn57, tn58, tn59, tn60, lH_eq, true_and, and_true, s0', p4', twq_0 T0', twq_1 T0', HM'.1.1, m0]
        rw [ek] at n1 n2
        exact ⟨by omega, by omega, k h' (by omega) (by omega) C⟩
    · cases hm : im i with
      | some U =>
        have hmw : wT (T, cls, tp, im) (i + 1) = some U := hm
        have o := HS.2.2.1 (i + 1) U (by omega) hmw
        have : x + 145 ≤ hR h (x + 19) i := o.1.resolve_left (by omega)
        omega
      | none =>
        have e : oBack T im (nI i) = (-1, T) := by unfold oBack; rw [if_pos z, ci, hm]
        have eL : bkL im (nI i) = 0 := by unfold bkL; rw [if_pos z, ci, hm]
        rw [e, eL, ez] at k
        rw [eL]
        exact ⟨by omega, by omega, k h (by omega) (by omega) H⟩
