/-! the class's reader: single moves -/
theorem RdP.cg {h h' : AH} {r : Nat} {l : List Nat} (H : RdP h r l) (e5 : hI h' r 5 = hI h r 5) (e4 : ∀ j, hI h' (r + 4) j = hI h (r + 4) j) : RdP h' r l := ⟨e5.trans H.1, H.2.cg (fun j _ => e4 j)⟩
theorem RdO.cg {h h' : AH} {r : Nat} {l : List (Nat × Nat)} (H : RdO h r l) (e4 : hI h' r 4 = hI h r 4) (e3 : ∀ j, hI h' (r + 3) j = hI h (r + 3) j) : RdO h' r l := ⟨e4.trans H.1, fun j q hq => (e3 j).trans (H.2 j q hq)⟩
theorem RdD.cg {h h' : AH} {r : Nat} {l : List Nat} (H : RdD h r l) (e6 : hI h' r 6 = hI h r 6) (e7 : hI h' r 7 = hI h r 7) : RdD h' r l := ⟨e6.trans H.1, e7.trans H.2⟩
theorem sp_countPart {d : Nat} {h : AH} {Q : Option Value → AH → Prop} (hd : 6 ≤ d) (r n q pa : Nat) (t : Nat → Int32) (H : RdS h r) (HT : TxS h (r + 1) n t) (e3 : hI h (r + 1) 3 = nI q) (hpa : pa ≤ 1000) (e8 : hI h r 8 = nI pa) (k : ∀ h', Fr' h h' (fun c => c = r ∨ c = r + 1) → (∀ j, j ≠ 8 → hI h' r j = hI h r j) → hI h' r 8 = nI (pa + 1) → (∀ j, j ≠ 2 → hI h' (r + 1) j = hI h (r + 1) j) → hI h' (r + 1) 2 = (if 60 ≤ pa then rfF (hI h (r + 1) 2) q 3 else hI h (r + 1) 2) → Q none h') : Calls d nX7_countPart [.ref r] h (hN h) (hU h) Q := by
  obtain ⟨e, rfl⟩ : ∃ e, d = e + 1 := ⟨d - 1, by omega⟩
  have le : ((nI (pa + 1)) ≤ (60 : Int32)) = (pa + 1 ≤ 60) := nI_le_iff (b := 60) (by omega) (by decide)
  have f : Fr' h (sI h r 8 (nI (pa + 1))) (fun c => c = r) := Fr'.sI rfl
  have g : ∀ j, j ≠ 8 → hI (sI h r 8 (nI (pa + 1))) r j = hI h r j := fun j hj => by rw [hI_sI, if_pos rfl, if_neg hj]
  have g8 : hI (sI h r 8 (nI (pa + 1))) r 8 = nI (pa + 1) := by rw [hI_sI, if_pos rfl, if_pos rfl]
  have gt : ∀ j, hI (sI h r 8 (nI (pa + 1))) (r + 1) j = hI h (r + 1) j := fun j => by rw [hI_sI, if_neg (by omega)]
  refine wX7_countPart (by omega) r ?_
  simp only [rt_i, rt_b0, rt_b1, rt_v, rt_l, rt_o, rt_a, rV_none, rI_some, rL_some, rR_some, rT_some, rt_bI, hIf_sL, hIf_sR, hS_sI, hS_sL, hS_sR, hS_cpI, hR_sI, hR_sL, hR_cpI, hL_sI, hL_sR, hL_cpI, hI_sL, hI_sR, hN_sI, hN_sL, hN_sR, hN_cpI, hU_sI, hU_sL, hU_sR, hU_cpI, tn0, tn1, tn2, tn3, tn4, tn5, tn6, tn7, tn8, tn9, tn10, tn11, tn12, tn13, tn14, tn15, tn16, tn17, tn18, tn19, tn20, tn21, tn22, tn23, tn24, tn25, tn26, tn27, tn28, tn29, tn30, tn31, tn32, tn33, tn34, tn35, tn36, tn37, tn38, tn39, tn40, tn41, tn42, tn43, tn44, tn45, tn46, tn47, tn48, tn49, tn50, tn51, tn52, tn53, tn54, tn55, tn56, tn57, tn58, tn59, tn60, lH_eq, true_and, and_true, H.1, H.2.1, e8, nI_1, hI_sI, if_true, le, HT.1]
  refine ⟨fun z => ?_, fun z => ?_⟩
  · rw [if_neg (by omega)] at k
    exact k _ (f.mono (fun c z => Or.inl z)) g g8 (fun j _ => gt j) (gt 2)
  · rw [if_pos (by omega)] at k
    refine sp_refuse (h := sI h r 8 (nI (pa + 1))) (by omega) (r + 1) n q 3 t (HT.fr f (gt 1) (by omega)) ((gt 3).trans e3) (fun h' f' g' g2 => ?_)
    rw [gt] at g2
    rw [rV_none]
    exact ⟨f'.2.2.1, f'.2.2.2.1, k h' ((f.mono (fun c z => Or.inl z)).trans (f'.mono (fun c z => Or.inr z))) (fun j hj => by rw [f'.2.2.2.2.1 r (by omega)]; exact g j hj) (by rw [f'.2.2.2.2.1 r (by omega)]; exact g8) (fun j hj => (g' j hj).trans (gt j)) g2⟩
theorem sp_join {d : Nat} {h : AH} {Q : Option Value → AH → Prop} (hd : 8 ≤ d) (r op : Nat) (pile : List Nat) (out : List (Nat × Nat)) (h2 : 2 ≤ op) (h16 : op < 16) (h1 : 1 ≤ tgO op) (hv : ∀ k ∈ pile, 2 ≤ k ∧ k < 16) (hl : pile.length ≤ 35) (hr : (rstL (tgO op - 1) pile).length < 35) (hs : out.length + pile.length ≤ 400) (H : RdS h r) (P : RdP h r pile) (D : RdD h r pile) (O : RdO h r out) (k : ∀ h', Fr' h h' (fun c => c = r ∨ c = r + 3 ∨ c = r + 4) → (∀ j, j ≠ 4 → j ≠ 5 → j ≠ 6 → hI h' r j = hI h r j) → RdP h' r (op :: rstL (tgO op - 1) pile) → RdD h' r (rstL (tgO op - 1) pile) → RdO h' r (out ++ emL (tgO op - 1) pile) → Q none h') : Calls d nX7_join [.ref r, .int (pcI op)] h (hN h) (hU h) Q := by
  obtain ⟨e, rfl⟩ : ∃ e, d = e + 1 := ⟨d - 1, by omega⟩
  have hb := tg_bnd op
  have et : tgI op - 1 = nI (tgO op - 1) := by
    unfold tgI
    rw [if_neg (by omega)]
    exact pk_sub (b := 1) h1
  refine wX7_join (by omega) r (pcI op) ?_
  refine sp_tight (by omega) op h2 (by omega) ?_
  simp only [rI_some, H.1, et, true_and]
  refine sp_release (by omega) r (tgO op - 1) (by omega) pile out hv hl hs H P D O (fun h1 f1 g1 P1 D1 O1 => ?_)
  have H1 := H.fr f1
  simp only [rV_none, H1.1, true_and]
  refine sp_pileR (by omega) r op (rstL (tgO op - 1) pile) H1 P1 hr (fun h2 f2 g2 P2 => ?_)
  rw [rV_none, rt_v]
  have F : Fr' h h2 (fun c => c = r ∨ c = r + 3 ∨ c = r + 4) := (f1.mono (fun c z => by omega)).trans (f2.mono (fun c z => by omega))
  exact ⟨F.2.2.1, F.2.2.2.1, k h2 F (fun j a b c => (g2 j b).trans (g1 j a b c)) P2 (D1.cg (g2 6 (by decide)) (g2 7 (by decide))) (O1.cg (g2 4 (by decide)) (fun j => f2.2.2.2.2.1 (r + 3) (by omega) j))⟩
theorem sp_stepTok {d : Nat} {h : AH} {Q : Option Value → AH → Prop} (hd : 6 ≤ d) (r n q : Nat) (t : Nat → Int32) (H : RdS h r) (HT : TxS h (r + 1) n t) (T : TxAt h (r + 1) t n q) (k : Q (some (.int (pcI (tkO t n q)))) h) : Calls d nX7_stepOfToken [.ref r] h (hN h) (hU h) Q := by
  obtain ⟨e, rfl⟩ : ∃ e, d = e + 1 := ⟨d - 1, by omega⟩
  have hK := tkK_le t n q
  have h3 : ((nI (tkK t n q)) = (3 : Int32)) = (tkK t n q = 3) := nI_eq_iff (b := 3) (by omega) (by decide)
  unfold tkO at k
  refine wX7_stepOfToken (by omega) r ?_
  simp only [rt_i, rt_b0, rt_b1, rt_v, rt_l, rt_o, rt_a, rV_none, rI_some, rL_some, rR_some, rT_some, rt_bI, hIf_sL, hIf_sR, hS_sI, hS_sL, hS_sR, hS_cpI, hR_sI, hR_sL, hR_cpI, hL_sI, hL_sR, hL_cpI, hI_sL, hI_sR, hN_sI, hN_sL, hN_sR, hN_cpI, hU_sI, hU_sL, hU_sR, hU_cpI, tn0, tn1, tn2, tn3, tn4, tn5, tn6, tn7, tn8, tn9, tn10, tn11, tn12, tn13, tn14, tn15, tn16, tn17, tn18, tn19, tn20, tn21, tn22, tn23, tn24, tn25, tn26, tn27, tn28, tn29, tn30, tn31, tn32, tn33, tn34, tn35, tn36, tn37, tn38, tn39, tn40, tn41, tn42, tn43, tn44, tn45, tn46, tn47, tn48, tn49, tn50, tn51, tn52, tn53, tn54, tn55, tn56, tn57, tn58, tn59, tn60, lH_eq, true_and, and_true, H.1, H.2.1, HT.1, T.2.1, h3]
  refine ⟨fun z => ?_, fun z => ?_⟩
  · rw [if_neg z] at k
    refine sp_isWord (by omega) (r + 1) n q 15 t (by decide) HT T ?_
    simp only [rI_some, bI0, rt_i, rt_b0, rt_b1, rt_v, rt_l, rt_o, rt_a, rV_none, rI_some, rL_some, rR_some, rT_some, rt_bI, hIf_sL, hIf_sR, hS_sI, hS_sL, hS_sR, hS_cpI, hR_sI, hR_sL, hR_cpI, hL_sI, hL_sR, hL_cpI, hI_sL, hI_sR, hN_sI, hN_sL, hN_sR, hN_cpI, hU_sI, hU_sL, hU_sR, hU_cpI, tn0, tn1, tn2, tn3, tn4, tn5, tn6, tn7, tn8, tn9, tn10, tn11, tn12, tn13, tn14, tn15, tn16, tn17, tn18, tn19, tn20, tn21, tn22, tn23, tn24, tn25, tn26, tn27, tn28, tn29, tn30, tn31, tn32, tn33, tn34, tn35, tn36, tn37, tn38, tn39, tn40, tn41, tn42, tn43, tn44, tn45, tn46, tn47, tn48, tn49, tn50, tn51, tn52, tn53, tn54, tn55, tn56, tn57, tn58, tn59, tn60, lH_eq, true_and, and_true, H.1, H.2.1, HT.1]
    refine ⟨fun y => ?_, fun y => by rwa [if_pos (Decidable.not_not.mp y)] at k⟩
    rw [if_neg y] at k
    refine sp_isWord (by omega) (r + 1) n q 16 t (by decide) HT T ?_
    simp only [rI_some, bI0, rt_i, rt_b0, rt_b1, rt_v, rt_l, rt_o, rt_a, rV_none, rI_some, rL_some, rR_some, rT_some, rt_bI, hIf_sL, hIf_sR, hS_sI, hS_sL, hS_sR, hS_cpI, hR_sI, hR_sL, hR_cpI, hL_sI, hL_sR, hL_cpI, hI_sL, hI_sR, hN_sI, hN_sL, hN_sR, hN_cpI, hU_sI, hU_sL, hU_sR, hU_cpI, tn0, tn1, tn2, tn3, tn4, tn5, tn6, tn7, tn8, tn9, tn10, tn11, tn12, tn13, tn14, tn15, tn16, tn17, tn18, tn19, tn20, tn21, tn22, tn23, tn24, tn25, tn26, tn27, tn28, tn29, tn30, tn31, tn32, tn33, tn34, tn35, tn36, tn37, tn38, tn39, tn40, tn41, tn42, tn43, tn44, tn45, tn46, tn47, tn48, tn49, tn50, tn51, tn52, tn53, tn54, tn55, tn56, tn57, tn58, tn59, tn60, lH_eq, true_and, and_true]
    exact ⟨fun x => by rwa [if_neg x] at k, fun x => by rwa [if_pos (Decidable.not_not.mp x)] at k⟩
  · rw [if_pos z] at k
    rw [T.2.2.1 (tkK_lt (t := t) (show ¬ tkK t n q = 0 by omega))]
    refine sp_stepOf (by omega) (tkV t n q) ?_
    simp only [rI_some, rt_i, rt_b0, rt_b1, rt_v, rt_l, rt_o, rt_a, rV_none, rI_some, rL_some, rR_some, rT_some, rt_bI, hIf_sL, hIf_sR, hS_sI, hS_sL, hS_sR, hS_cpI, hR_sI, hR_sL, hR_cpI, hL_sI, hL_sR, hL_cpI, hI_sL, hI_sR, hN_sI, hN_sL, hN_sR, hN_cpI, hU_sI, hU_sL, hU_sR, hU_cpI, tn0, tn1, tn2, tn3, tn4, tn5, tn6, tn7, tn8, tn9, tn10, tn11, tn12, tn13, tn14, tn15, tn16, tn17, tn18, tn19, tn20, tn21, tn22, tn23, tn24, tn25, tn26, tn27, tn28, tn29, tn30, tn31, tn32, tn33, tn34, tn35, tn36, tn37, tn38, tn39, tn40, tn41, tn42, tn43, tn44, tn45, tn46, tn47, tn48, tn49, tn50, tn51, tn52, tn53, tn54, tn55, tn56, tn57, tn58, tn59, tn60, lH_eq, true_and, and_true]
    exact k
abbrev ceQ (t : Nat → Int32) (n q : Nat) : Prop := tkK t n q = 0 ∨ (tkK t n q = 3 ∧ tkV t n q = 59)
theorem sp_clauseEnd {d : Nat} {h : AH} {Q : Option Value → AH → Prop} (hd : 6 ≤ d) (r n q : Nat) (t : Nat → Int32) (H : RdS h r) (HT : TxS h (r + 1) n t) (T : TxAt h (r + 1) t n q) (k : Q (some (.int (bI (ceQ t n q)))) h) : Calls d nX7_isClauseEnd [.ref r] h (hN h) (hU h) Q := by
  obtain ⟨e, rfl⟩ : ∃ e, d = e + 1 := ⟨d - 1, by omega⟩
  have hK := tkK_le t n q
  have h0 : ((nI (tkK t n q)) = (0 : Int32)) = (tkK t n q = 0) := nI_eq_iff (b := 0) (by omega) (by decide)
  refine wX7_isClauseEnd (by omega) r ?_
  simp only [rt_i, rt_b0, rt_b1, rt_v, rt_l, rt_o, rt_a, rV_none, rI_some, rL_some, rR_some, rT_some, rt_bI, hIf_sL, hIf_sR, hS_sI, hS_sL, hS_sR, hS_cpI, hR_sI, hR_sL, hR_cpI, hL_sI, hL_sR, hL_cpI, hI_sL, hI_sR, hN_sI, hN_sL, hN_sR, hN_cpI, hU_sI, hU_sL, hU_sR, hU_cpI, tn0, tn1, tn2, tn3, tn4, tn5, tn6, tn7, tn8, tn9, tn10, tn11, tn12, tn13, tn14, tn15, tn16, tn17, tn18, tn19, tn20, tn21, tn22, tn23, tn24, tn25, tn26, tn27, tn28, tn29, tn30, tn31, tn32, tn33, tn34, tn35, tn36, tn37, tn38, tn39, tn40, tn41, tn42, tn43, tn44, tn45, tn46, tn47, tn48, tn49, tn50, tn51, tn52, tn53, tn54, tn55, tn56, tn57, tn58, tn59, tn60, lH_eq, true_and, and_true, H.1, H.2.1, HT.1, T.2.1, h0]
  refine ⟨fun z => by rwa [bI_t (Or.inl z)] at k, fun z => ?_⟩
  refine sp_isSign (by omega) (r + 1) n q 59 t HT T ?_
  simp only [rI_some, bI0, rt_i, rt_b0, rt_b1, rt_v, rt_l, rt_o, rt_a, rV_none, rI_some, rL_some, rR_some, rT_some, rt_bI, hIf_sL, hIf_sR, hS_sI, hS_sL, hS_sR, hS_cpI, hR_sI, hR_sL, hR_cpI, hL_sI, hL_sR, hL_cpI, hI_sL, hI_sR, hN_sI, hN_sL, hN_sR, hN_cpI, hU_sI, hU_sL, hU_sR, hU_cpI, tn0, tn1, tn2, tn3, tn4, tn5, tn6, tn7, tn8, tn9, tn10, tn11, tn12, tn13, tn14, tn15, tn16, tn17, tn18, tn19, tn20, tn21, tn22, tn23, tn24, tn25, tn26, tn27, tn28, tn29, tn30, tn31, tn32, tn33, tn34, tn35, tn36, tn37, tn38, tn39, tn40, tn41, tn42, tn43, tn44, tn45, tn46, tn47, tn48, tn49, tn50, tn51, tn52, tn53, tn54, tn55, tn56, tn57, tn58, tn59, tn60, lH_eq, true_and, and_true]
  exact ⟨fun y => by rwa [bI_f (fun x => x.elim z y)] at k, fun y => by rwa [bI_t (Or.inr (Decidable.not_not.mp y))] at k⟩
/-- bounds of the clauses that are read -/
def bdC (f : Nat → Int32) : Nat → Nat → List (List (Nat × Nat) × List (Nat × Nat)) → Prop
  | c, o, [] => f (2 * c) = nI o
  | c, o, q :: r => f (2 * c) = nI o ∧ f (2 * c + 1) = nI (o + q.1.length) ∧ bdC f (c + 1) (o + q.1.length + q.2.length) r
theorem bdC.cg {f g : Nat → Int32} : ∀ {c o : Nat} {cl : List (List (Nat × Nat) × List (Nat × Nat))}, bdC f c o cl → (∀ j, j ≤ 2 * (c + cl.length) → g j = f j) → bdC g c o cl
  | c, o, [], h, e => (e _ (by simp)).trans h
  | c, o, q :: r, h, e => by
    simp only [List.length_cons] at e
    exact ⟨(e _ (by omega)).trans h.1, (e _ (by omega)).trans h.2.1, h.2.2.cg (fun j hj => e j (by omega))⟩
theorem bdC.app {f : Nat → Int32} {x : List (Nat × Nat) × List (Nat × Nat)} : ∀ {c o : Nat} {cl : List (List (Nat × Nat) × List (Nat × Nat))}, bdC f c o cl → f (2 * (c + cl.length) + 1) = nI (o + (flK cl).length + x.1.length) → f (2 * (c + cl.length) + 2) = nI (o + (flK cl).length + x.1.length + x.2.length) → bdC f c o (cl ++ [x])
  | c, o, [], h, e1, e2 => by
    simp only [flK, List.length_nil, Nat.add_zero] at e1 e2
    exact ⟨h, e1, by show f (2 * (c + 1)) = _; rw [show 2 * (c + 1) = 2 * c + 2 by omega]; exact e2⟩
  | c, o, q :: r, h, e1, e2 => by
    simp only [flK, List.length_cons, List.length_append] at e1 e2
    refine ⟨h.1, h.2.1, h.2.2.app ?_ ?_⟩
    · rw [show 2 * (c + 1 + r.length) + 1 = 2 * (c + (r.length + 1)) + 1 by omega, e1]
      congr 1; omega
    · rw [show 2 * (c + 1 + r.length) + 2 = 2 * (c + (r.length + 1)) + 2 by omega, e2]
      congr 1; omega
def RdIs (h : AH) (r : Nat) : MS → Prop
  | (_, st, pile, pa, cl, su, s) => RdP h r pile ∧ RdD h r pile ∧ RdO h r (flK cl ++ su ++ s) ∧ (hI h r 8 = nI pa ∧ hI h r 9 = nI cl.length ∧ hI h r 10 = nI st) ∧ bdC (hI h (r + 5)) 0 0 cl ∧ (3 ≤ st → hI h (r + 5) (2 * cl.length + 1) = nI (flK cl ++ su).length)
def TkP (h : AH) (r : Nat) : MR → Prop
  | .inl (f, cls) => hI h (r + 1) 2 = f ∧ (f = 0 → hI h r 10 = 9 ∧ RdO h r (flK cls) ∧ hI h r 9 = nI cls.length ∧ bdC (hI h (r + 5)) 0 0 cls)
  | .inr σ => hI h (r + 1) 2 = 0 ∧ RdIs h r σ
def RB (r : Nat) : Nat → Prop := fun c => r ≤ c ∧ c ≤ r + 5 ∧ c ≠ r + 2
/-- what must be shown of a move -/
def KT (h : AH) (r n q : Nat) (t : Nat → Int32) (X : MR) (Q : Option Value → AH → Prop) : Prop := ∀ h', Fr' h h' (RB r) → (hI h' (r + 1) 1 = hI h (r + 1) 1 ∧ hI h' (r + 5) 0 = hI h (r + 5) 0) → TxAt h' (r + 1) t n q → TkP h' r X → Q none h'
theorem sp_refK {d : Nat} {h : AH} {Q : Option Value → AH → Prop} (hd : 5 ≤ d) (r n q c : Nat) (t : Nat → Int32) (hq : q ≤ 400) (hc : c < 8) (HT : TxS h (r + 1) n t) (T : TxAt h (r + 1) t n q) (e2 : hI h (r + 1) 2 = 0) (k : KT h r n q t (.inl (rfF 0 q c, [])) Q) : Calls d nX8_refuse [.ref (r + 1), .int (nI c)] h (hN h) (hU h) Q := by
  refine sp_refuse hd (r + 1) n q c t HT T.1 (fun h' f g g2 => ?_)
  rw [e2] at g2
  exact k h' (f.mono (fun c z => by unfold RB; omega)) ⟨g 1 (by decide), f.2.2.2.2.1 (r + 5) (by omega) 0⟩ (T.cg g) ⟨g2, fun z => absurd z (rfF_ne (fa := 0) (q := q) (c := c) hq hc)⟩
theorem sp_takeRun {d : Nat} {h : AH} {Q : Option Value → AH → Prop} (hd : 7 ≤ d) (r n p pa : Nat) (pile : List Nat) (cl : List (List (Nat × Nat) × List (Nat × Nat))) (su s : List (Nat × Nat)) (t : Nat → Int32) (hn : n ≤ 400) (hp : p ≤ n) (I : mInv (p, 0, pile, pa, cl, su, s)) (H : RdS h r) (R : RdIs h r (p, 0, pile, pa, cl, su, s)) (HT : TxS h (r + 1) n t) (T : TxAt h (r + 1) t n (sk t n p)) (e2 : hI h (r + 1) 2 = 0) (k : KT h r n (sk t n p) t (mstep t n (p, 0, pile, pa, cl, su, s)) Q) : Calls d nX7_takeRun [.ref r] h (hN h) (hU h) Q := by
  obtain ⟨e, rfl⟩ : ∃ e, d = e + 1 := ⟨d - 1, by omega⟩
  have hq : sk t n p ≤ n := ru_le hp
  unfold mstep at k
  simp only [if_true] at k
  generalize sk t n p = q at *
  obtain ⟨⟨A, G, B, eP, hA, hB, hd', hG, hB0, hA0⟩, ⟨i1, i2, i3, i4⟩, i5, -, ⟨j1, j2, -, -⟩, -⟩ := I
  have a0 := hA0 (Or.inl rfl)
  have b0 := hB0 (by omega)
  have g0 := hG.2 (by omega)
  have s0 := j1 rfl
  have u0 := j2 (by omega)
  subst a0 b0 g0 s0 u0
  have eP : pile = [] := eP
  subst eP
  have lt : ((nI cl.length) < (12 : Int32)) = (cl.length < 12) := nI_lt_iff (b := 12) (by omega) (by decide)
  refine wX7_takeRun (by omega) r ?_
  simp only [rt_i, rt_b0, rt_b1, rt_v, rt_l, rt_o, rt_a, rV_none, rI_some, rL_some, rR_some, rT_some, rt_bI, hIf_sL, hIf_sR, hS_sI, hS_sL, hS_sR, hS_cpI, hR_sI, hR_sL, hR_cpI, hL_sI, hL_sR, hL_cpI, hI_sL, hI_sR, hN_sI, hN_sL, hN_sR, hN_cpI, hU_sI, hU_sL, hU_sR, hU_cpI, tn0, tn1, tn2, tn3, tn4, tn5, tn6, tn7, tn8, tn9, tn10, tn11, tn12, tn13, tn14, tn15, tn16, tn17, tn18, tn19, tn20, tn21, tn22, tn23, tn24, tn25, tn26, tn27, tn28, tn29, tn30, tn31, tn32, tn33, tn34, tn35, tn36, tn37, tn38, tn39, tn40, tn41, tn42, tn43, tn44, tn45, tn46, tn47, tn48, tn49, tn50, tn51, tn52, tn53, tn54, tn55, tn56, tn57, tn58, tn59, tn60, lH_eq, true_and, and_true, H.1, H.2.1, HT.1]
  refine sp_isWord (by omega) (r + 1) n q 13 t (by decide) HT T ?_
  obtain ⟨R1, R2, R3, ⟨R4, R5, R6⟩, R7, R8⟩ := R
  simp only [rI_some, bI0, rt_i, rt_b0, rt_b1, rt_v, rt_l, rt_o, rt_a, rV_none, rI_some, rL_some, rR_some, rT_some, rt_bI, hIf_sL, hIf_sR, hS_sI, hS_sL, hS_sR, hS_cpI, hR_sI, hR_sL, hR_cpI, hL_sI, hL_sR, hL_cpI, hI_sL, hI_sR, hN_sI, hN_sL, hN_sR, hN_cpI, hU_sI, hU_sL, hU_sR, hU_cpI, tn0, tn1, tn2, tn3, tn4, tn5, tn6, tn7, tn8, tn9, tn10, tn11, tn12, tn13, tn14, tn15, tn16, tn17, tn18, tn19, tn20, tn21, tn22, tn23, tn24, tn25, tn26, tn27, tn28, tn29, tn30, tn31, tn32, tn33, tn34, tn35, tn36, tn37, tn38, tn39, tn40, tn41, tn42, tn43, tn44, tn45, tn46, tn47, tn48, tn49, tn50, tn51, tn52, tn53, tn54, tn55, tn56, tn57, tn58, tn59, tn60, lH_eq, true_and, and_true, H.1, H.2.1, HT.1, R5, lt]
  refine ⟨fun z => ?_, fun z => ?_⟩
  · have z := Decidable.not_not.mp z
    rw [if_pos z] at k
    refine ⟨fun y => ?_, fun y => ?_⟩
    · rw [if_neg (by omega)] at k
      have f : Fr' h (sI h r 10 1) (fun c => c = r) := Fr'.sI rfl
      have g : ∀ j, j ≠ 10 → hI (sI h r 10 1) r j = hI h r j := fun j hj => by rw [hI_sI, if_pos rfl, if_neg hj]
      have o : ∀ c, c ≠ r → ∀ j, hI (sI h r 10 1) c j = hI h c j := fun c hc j => by rw [hI_sI, if_neg hc]
      refine k _ (f.mono (fun c z => by unfold RB; omega)) ⟨o (r + 1) (by omega) 1, o (r + 5) (by omega) 0⟩ (T.cg (fun j _ => o (r + 1) (by omega) j)) ⟨(o (r + 1) (by omega) 2).trans e2, R1.cg (g 5 (by decide)) (o (r + 4) (by omega)), R2.cg (g 6 (by decide)) (g 7 (by decide)), R3.cg (g 4 (by decide)) (o (r + 3) (by omega)), ⟨(g 8 (by decide)).trans R4, (g 9 (by decide)).trans R5, by rw [hI_sI, if_pos rfl, if_pos rfl]; rfl⟩, R7.cg (fun j _ => o (r + 5) (by omega) j), fun z => by omega⟩
    · rw [if_pos (by omega)] at k
      refine sp_refK (by omega) r n q 4 t (by omega) (by omega) HT T e2 (fun h' f a b c => ?_)
      rw [rV_none]
      exact ⟨f.2.2.1, f.2.2.2.1, k h' f a b c⟩
  · rw [if_neg z] at k
    refine sp_refK (by omega) r n q 0 t (by omega) (by omega) HT T e2 (fun h' f a b c => ?_)
    rw [rV_none]
    exact ⟨f.2.2.1, f.2.2.2.1, k h' f a b c⟩
