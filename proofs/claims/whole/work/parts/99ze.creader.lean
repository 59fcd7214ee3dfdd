/-! the class's reader of rules: its pile and its steps -/
def pcI (k : Nat) : Int32 := if k = 12 then -33 else if k = 16 then -19 else cdI (k, 0)
def tgI (k : Nat) : Int32 := if k = 16 then -1 else nI (tgO k)
def tgV (a : Int32) : Int32 := if a = -19 then -1 else if a = -20 then 5 else if a = -21 then 5 else if a < -24 then (if a < -29 then (if a = -32 then 3 else if a = -31 then 1 else if a = -30 then 2 else 0) else 4) else 6
theorem tgV_is : ∀ k, k < 17 → 2 ≤ k → tgV (pcI k) = tgI k := by decide
theorem sp_tight {d : Nat} {h : AH} {Q : Option Value → AH → Prop} (hd : 5 ≤ d) (j : Nat) (h2 : 2 ≤ j) (h16 : j ≤ 16) (k : Q (some (.int (tgI j))) h) : Calls d nX6_tightnessOf [.int (pcI j)] h (hN h) (hU h) Q := by
  obtain ⟨e, rfl⟩ : ∃ e, d = e + 1 := ⟨d - 1, by omega⟩
  rw [← tgV_is j (by omega) h2] at k
  generalize pcI j = a at *
  refine wX6_tightnessOf (by omega) a ?_
  simp only [rt_i, rt_b0, rt_b1, rt_v, rt_l, rt_o, rt_a, rV_none, rI_some, rL_some, rR_some, rT_some, true_and]
  unfold tgV at k
  refine ⟨fun z => ?_, fun z => by rwa [if_pos z] at k⟩
  rw [if_neg z] at k
  refine ⟨fun z => by rwa [if_pos z] at k, fun z => ?_⟩
  rw [if_neg z] at k
  refine ⟨fun z => ?_, fun z => by rwa [if_pos z] at k⟩
  rw [if_neg z] at k
  refine ⟨fun z => ?_, fun z => by rwa [if_neg z] at k⟩
  rw [if_pos z] at k
  refine ⟨fun z => ?_, fun z => by rwa [if_neg z] at k⟩
  rw [if_pos z] at k
  refine ⟨fun z => by rwa [if_pos z] at k, fun z => ?_⟩
  rw [if_neg z] at k
  refine ⟨fun z => by rwa [if_pos z] at k, fun z => ?_⟩
  rw [if_neg z] at k
  exact ⟨fun z => by rwa [if_pos z] at k, fun z => by rwa [if_neg z] at k⟩
theorem sp_stepOf {d : Nat} {h : AH} {Q : Option Value → AH → Prop} (hd : 5 ≤ d) (v : Int32) (k : Q (some (.int (pcI (sgO v)))) h) : Calls d nX6_stepOf [.int v] h (hN h) (hU h) Q := by
  obtain ⟨e, rfl⟩ : ∃ e, d = e + 1 := ⟨d - 1, by omega⟩
  have g : ∀ (c w : Int32), v = c → pcI (sgO c) = w → Q (some (.int w)) h := fun c w e1 e2 => by rw [← e2, ← e1]; exact k
  refine wX6_stepOf (by omega) v ?_
  simp only [rt_i, rt_b0, rt_b1, rt_v, rt_l, rt_o, rt_a, rV_none, rI_some, rL_some, rR_some, rT_some, true_and]
  refine ⟨fun z => g _ _ z (by decide), fun z1 => ⟨fun z => g _ _ z (by decide), fun z2 => ⟨fun z => g _ _ z (by decide), fun z3 => ⟨fun z => g _ _ z (by decide), fun z4 => ⟨fun z => g _ _ z (by decide), fun z5 => ⟨fun z => g _ _ z (by decide), fun z6 => ⟨fun z => g _ _ z (by decide), fun z7 => ⟨fun z => g _ _ z (by decide), fun z8 => ⟨fun z => g _ _ z (by decide), fun z9 => ⟨fun z => g _ _ z (by decide), fun z10 => ?_⟩⟩⟩⟩⟩⟩⟩⟩⟩⟩
  have e : sgO v = 16 := by simp [sgO, z1, z2, z3, z4, z5, z6, z7, z8, z9, z10]
  rw [e] at k
  exact k
def RdS (h : AH) (r : Nat) : Prop := hS h r = (17, 11) ∧ hR h r 0 = r + 1 ∧ hR h r 1 = r + 3 ∧ hR h r 2 = r + 4 ∧ hR h r 3 = r + 5 ∧ hS h (r + 3) = (1, 400) ∧ hS h (r + 4) = (1, 35) ∧ hS h (r + 5) = (1, 25)
theorem RdS.fr {h h' : AH} {r : Nat} {S : Nat → Prop} (H : RdS h r) (f : Fr' h h' S) : RdS h' r := by
  unfold RdS at H ⊢
  rw [f.1, f.1, f.1, f.1, f.2.1, f.2.1, f.2.1, f.2.1]
  exact H
def WtIs (f : Nat → Int32) : List Nat → Prop
  | [] => True
  | k :: l => f l.length = pcI k ∧ WtIs f l
theorem WtIs.cg {f g : Nat → Int32} : ∀ {l : List Nat}, WtIs f l → (∀ j, j < l.length → g j = f j) → WtIs g l
  | [], _, _ => trivial
  | k :: l, h, e => ⟨(e l.length (by simp)).trans h.1, WtIs.cg h.2 (fun j hj => e j (by simp; omega))⟩
def RdP (h : AH) (r : Nat) (pile : List Nat) : Prop := hI h r 5 = nI pile.length ∧ WtIs (hI h (r + 4)) pile
def RdD (h : AH) (r : Nat) (pile : List Nat) : Prop := hI h r 6 = nI (dpt pile) ∧ hI h r 7 = nI (brc pile)
def RdO (h : AH) (r : Nat) (out : List (Nat × Nat)) : Prop := hI h r 4 = nI out.length ∧ ∀ (j : Nat) (q : Nat × Nat), out[j]? = some q → hI h (r + 3) j = cdI q
theorem sp_addStep {d : Nat} {h : AH} {Q : Option Value → AH → Prop} (hd : 5 ≤ d) (r : Nat) (v : Int32) (q : Nat × Nat) (out : List (Nat × Nat)) (H : RdS h r) (O : RdO h r out) (hl : out.length < 400) (hv : v = cdI q) (k : ∀ h', Fr' h h' (fun c => c = r ∨ c = r + 3) → (∀ j, j ≠ 4 → hI h' r j = hI h r j) → RdO h' r (out ++ [q]) → Q none h') : Calls d nX7_addStep [.ref r, .int v] h (hN h) (hU h) Q := by
  obtain ⟨e, rfl⟩ : ∃ e, d = e + 1 := ⟨d - 1, by omega⟩
  obtain ⟨a1, a2, a3, a4, a5, a6, a7, a8⟩ := H
  obtain ⟨o1, o2⟩ := O
  have e4 : ((nI 400) ≤ nI out.length) = (400 ≤ out.length) := nI_le_iff (by decide) (by omega)
  have eo : Int32.ofNat 400 = nI 400 := rfl
  have ne : (r = r + 3) = False := eq_false (by omega)
  refine wX7_addStep (by omega) r v ?_
  simp only [rt_i, rt_b0, rt_b1, rt_v, rt_l, rt_o, rt_a, rV_none, rI_some, rL_some, rR_some, rT_some, rt_bI, hIf_sL, hIf_sR, hS_sI, hS_sL, hS_sR, hS_cpI, hR_sI, hR_sL, hR_cpI, hL_sI, hL_sR, hL_cpI, hI_sL, hI_sR, hN_sI, hN_sL, hN_sR, hN_cpI, hU_sI, hU_sL, hU_sR, hU_cpI, tn0, tn1, tn2, tn3, tn4, tn5, tn6, tn7, tn8, tn9, tn10, tn11, tn12, tn13, tn14, tn15, tn16, tn17, tn18, tn19, tn20, tn21, tn22, tn23, tn24, tn25, tn26, tn27, tn28, tn29, tn30, tn31, tn32, tn33, tn34, tn35, tn36, tn37, tn38, tn39, tn40, tn41, tn42, tn43, tn44, tn45, tn46, tn47, tn48, tn49, tn50, tn51, tn52, tn53, tn54, tn55, tn56, tn57, tn58, tn59, tn60, lH_eq, true_and, and_true, a1, a3, a6, o1, eo, e4, hI_sI, ne, if_false, vp_in_nI (show out.length < 400 by omega) (show 400 < 2 ^ 31 by omega), nI_clamp (show out.length < 2 ^ 31 by omega), nI_1]
  refine ⟨by decide, by decide, fun z => absurd z (by omega), fun _ => ?_⟩
  refine k _ ((Fr'.sI (S := fun c => c = r ∨ c = r + 3) (Or.inr rfl)).trans (Fr'.sI (Or.inl rfl))) (fun j hj => by rw [hI_sI, if_pos rfl, if_neg hj, hI_sI, if_neg (by omega)]) ⟨by rw [hI_sI, if_pos rfl, if_pos rfl]; simp, fun j u hu => ?_⟩
  rw [hI_sI, if_neg (by omega), hI_sI, if_pos rfl]
  by_cases c : j < out.length
  · rw [List.getElem?_append_left c] at hu
    rw [if_neg (by omega)]
    exact o2 j u hu
  · have := getq_lt hu
    simp at this
    have e : j = out.length := by omega
    subst e
    rw [List.getElem?_append_right (Nat.le_refl _)] at hu
    simp at hu
    rw [if_pos rfl, hv, hu]
theorem sp_pileR {d : Nat} {h : AH} {Q : Option Value → AH → Prop} (hd : 5 ≤ d) (r : Nat) (j : Nat) (pile : List Nat) (H : RdS h r) (P : RdP h r pile) (hl : pile.length < 35) (k : ∀ h', Fr' h h' (fun c => c = r ∨ c = r + 4) → (∀ j, j ≠ 5 → hI h' r j = hI h r j) → RdP h' r (j :: pile) → Q none h') : Calls d nX7_pile [.ref r, .int (pcI j)] h (hN h) (hU h) Q := by
  obtain ⟨e, rfl⟩ : ∃ e, d = e + 1 := ⟨d - 1, by omega⟩
  obtain ⟨a1, a2, a3, a4, a5, a6, a7, a8⟩ := H
  obtain ⟨o1, o2⟩ := P
  have e4 : ((nI 35) ≤ nI pile.length) = (35 ≤ pile.length) := nI_le_iff (by decide) (by omega)
  have eo : Int32.ofNat 35 = nI 35 := rfl
  have ne : (r = r + 4) = False := eq_false (by omega)
  refine wX7_pile (by omega) r (pcI j) ?_
  simp only [rt_i, rt_b0, rt_b1, rt_v, rt_l, rt_o, rt_a, rV_none, rI_some, rL_some, rR_some, rT_some, rt_bI, hIf_sL, hIf_sR, hS_sI, hS_sL, hS_sR, hS_cpI, hR_sI, hR_sL, hR_cpI, hL_sI, hL_sR, hL_cpI, hI_sL, hI_sR, hN_sI, hN_sL, hN_sR, hN_cpI, hU_sI, hU_sL, hU_sR, hU_cpI, tn0, tn1, tn2, tn3, tn4, tn5, tn6, tn7, tn8, tn9, tn10, tn11, tn12, tn13, tn14, tn15, tn16, tn17, tn18, tn19, tn20, tn21, tn22, tn23, tn24, tn25, tn26, tn27, tn28, tn29, tn30, tn31, tn32, tn33, tn34, tn35, tn36, tn37, tn38, tn39, tn40, tn41, tn42, tn43, tn44, tn45, tn46, tn47, tn48, tn49, tn50, tn51, tn52, tn53, tn54, tn55, tn56, tn57, tn58, tn59, tn60, lH_eq, true_and, and_true, a1, a4, a7, o1, eo, e4, hI_sI, ne, if_false, vp_in_nI (show pile.length < 35 by omega) (show 35 < 2 ^ 31 by omega), nI_clamp (show pile.length < 2 ^ 31 by omega), nI_1]
  refine ⟨by decide, by decide, fun z => absurd z (by omega), fun _ => ?_⟩
  refine k _ ((Fr'.sI (S := fun c => c = r ∨ c = r + 4) (Or.inr rfl)).trans (Fr'.sI (Or.inl rfl))) (fun j hj => by rw [hI_sI, if_pos rfl, if_neg hj, hI_sI, if_neg (by omega)]) ⟨by rw [hI_sI, if_pos rfl, if_pos rfl]; simp, ?_, o2.cg (fun i hi => ?_)⟩
  · rw [hI_sI, if_neg (by omega), hI_sI, if_pos rfl, if_pos rfl]
  · rw [hI_sI, if_neg (by omega), hI_sI, if_pos rfl, if_neg (by omega)]
theorem pcI_cd {k : Nat} (h : k ≠ 12) (h2 : k ≠ 16) : pcI k = cdI (k, 0) := by unfold pcI; rw [if_neg h, if_neg h2]
theorem pc_9 : ∀ k, k < 16 → 2 ≤ k → ((pcI k = -32) ↔ k = 9) := by decide
theorem tg_le {k th : Nat} (h2 : 2 ≤ k) (h : k < 16) (ht : th < 100) : (tgI k ≤ nI th) = (tgO k ≤ th) := by
  have hb : ∀ k, k < 16 → tgO k ≤ 6 := by decide
  unfold tgI
  rw [if_neg (by omega)]
  exact nI_le_iff (by have := hb k h; omega) (by omega)
theorem dpt_c (k : Nat) (l : List Nat) : dpt (k :: l) = (if k = 9 ∨ k = 12 then 1 else 0) + dpt l := rfl
theorem brc_c (k : Nat) (l : List Nat) : brc (k :: l) = (if k = 12 then 1 else 0) + brc l := rfl
theorem dpt_le : ∀ l : List Nat, dpt l ≤ l.length
  | [] => Nat.le_refl _
  | k :: l => by
    have := dpt_le l
    rw [dpt_c]
    simp
    split <;> omega
theorem rl_loop {d E1 E2 : Nat} {Q : Option Value → AH → Prop} (hd : 6 ≤ d) (r th : Nat) (ht : th < 100) : ∀ (pile : List Nat) (out : List (Nat × Nat)) (h : AH), (∀ k ∈ pile, 2 ≤ k ∧ k < 16) → pile.length ≤ 35 → out.length + pile.length ≤ 400 → RdS h r → RdP h r pile → RdD h r pile → RdO h r out → hN h = E1 → hU h = E2 → (∀ h', Fr' h h' (fun c => c = r ∨ c = r + 3) → (∀ j, j ≠ 4 → j ≠ 5 → j ≠ 6 → hI h' r j = hI h r j) → RdP h' r (rstL th pile) → RdD h' r (rstL th pile) → RdO h' r (out ++ emL th pile) → Q none h') → Reach d nX7_release (0, [.ref r, .int (nI th)], []) h E1 E2 Q
  | [], out, h, hv, hl, hs, H, P, D, O, n1, n2, k => by
    refine wX7_release_0 (by omega) r (nI th) ?_
    have e0 : hI h r 5 = nI 0 := P.1
    have le : ((nI 0) ≤ (0 : Int32)) = True := eq_true (by decide)
    simp only [rt_i, rt_b0, rt_b1, rt_v, rt_l, rt_o, rt_a, rV_none, rI_some, rL_some, rR_some, rT_some, H.1, e0, le, true_and]
    exact ⟨fun _ => ⟨n1, n2, k h (Fr'.refl _ _) (fun _ _ _ _ => rfl) P D (by rw [show emL th [] = [] from rfl, List.append_nil]; exact O)⟩, fun z => absurd trivial z⟩
  | j :: l, out, h, hv, hl, hs, H, P, D, O, n1, n2, k => by
    have H0 := H
    obtain ⟨a1, a2, a3, a4, a5, a6, a7, a8⟩ := H
    obtain ⟨o1, o2, o3⟩ := P
    have vj := hv j (by simp)
    have hll : l.length < 35 := by simp at hl; omega
    have hsl : out.length + 1 + l.length ≤ 400 := by simp at hs; omega
    have e5 : hI h r 5 = nI (l.length + 1) := by rw [o1]; simp
    have e5' : nI (l.length + 1) - 1 = nI l.length := nI_sub1 _
    have le : ((nI (l.length + 1)) ≤ (0 : Int32)) = (l.length + 1 ≤ 0) := nI_le_iff (b := 0) (by omega) (by decide)
    refine wX7_release_0 (by omega) r (nI th) ?_
    simp only [rt_i, rt_b0, rt_b1, rt_v, rt_l, rt_o, rt_a, rV_none, rI_some, rL_some, rR_some, rT_some, a1, a4, a7, e5, e5', le, true_and, vp_in_nI (show l.length < 35 by omega) (show 35 < 2 ^ 31 by omega), nI_clamp (show l.length < 2 ^ 31 by omega), o2]
    refine ⟨fun z => absurd z (by omega), fun _ => ?_⟩
    refine sp_tight (by omega) j vj.1 (by omega) ?_
    have ne4 : (r + 4 = r) = False := eq_false (by omega)
    simp only [rI_some, rt_i, rt_b0, rt_b1, rt_v, rt_l, rt_o, rt_a, rV_none, rI_some, rL_some, rR_some, rT_some, rt_bI, hIf_sL, hIf_sR, hS_sI, hS_sL, hS_sR, hS_cpI, hR_sI, hR_sL, hR_cpI, hL_sI, hL_sR, hL_cpI, hI_sL, hI_sR, hN_sI, hN_sL, hN_sR, hN_cpI, hU_sI, hU_sL, hU_sR, hU_cpI, tn0, tn1, tn2, tn3, tn4, tn5, tn6, tn7, tn8, tn9, tn10, tn11, tn12, tn13, tn14, tn15, tn16, tn17, tn18, tn19, tn20, tn21, tn22, tn23, tn24, tn25, tn26, tn27, tn28, tn29, tn30, tn31, tn32, tn33, tn34, tn35, tn36, tn37, tn38, tn39, tn40, tn41, tn42, tn43, tn44, tn45, tn46, tn47, tn48, tn49, tn50, tn51, tn52, tn53, tn54, tn55, tn56, tn57, tn58, tn59, tn60, lH_eq, true_and, and_true, a1, a4, a7, e5, e5', hI_sI, ne4, if_true, Nat.reduceEqDiff, if_false, vp_in_nI (show l.length < 35 by omega) (show 35 < 2 ^ 31 by omega), nI_clamp (show l.length < 2 ^ 31 by omega), o2, tg_le vj.1 vj.2 ht]
    refine ⟨fun z => ?_, fun z => ?_⟩
    · have er : rstL th (j :: l) = j :: l := by simp only [rstL, if_neg (show ¬ th < tgO j by omega)]
      have ee : emL th (j :: l) = [] := by unfold emL; simp only [popL, if_neg (show ¬ th < tgO j by omega)]; rfl
      rw [er, ee, List.append_nil] at k
      exact ⟨n1, n2, k h (Fr'.refl _ _) (fun _ _ _ _ => rfl) ⟨o1, o2, o3⟩ D O⟩
    · have hj12 : j ≠ 12 := fun c => by rw [c] at z; exact z (Nat.zero_le th)
      have er := rstL_c (l := l) (show th < tgO j by omega)
      have ee := emL_c (l := l) (show th < tgO j by omega)
      rw [er, ee] at k
      have go : ∀ (v6 : Int32), v6 = nI (dpt l) → ∀ hx, hx = sI (sI h r 5 (nI l.length)) r 6 v6 → Calls d nX7_addStep [.ref r, .int (pcI j)] hx (hN hx) (hU hx) (fun r7 h6 => rV r7 (Reach d nX7_release (0, [.ref r, .int (nI th)], []) h6 E1 E2 Q)) := fun v6 ev hx ehx => by
        have f : Fr' h hx (fun c => c = r) := by rw [ehx]; exact (Fr'.sI (S := fun c => c = r) rfl).trans (Fr'.sI rfl)
        have g : ∀ i, i ≠ 5 → i ≠ 6 → hI hx r i = hI h r i := fun i h5 h6 => by rw [ehx, hI_sI, if_pos rfl, if_neg h6, hI_sI, if_pos rfl, if_neg h5]
        have g5 : hI hx r 5 = nI l.length := by rw [ehx, hI_sI, if_pos rfl, if_neg (by decide), hI_sI, if_pos rfl, if_pos rfl]
        have g6 : hI hx r 6 = nI (dpt l) := by rw [ehx, hI_sI, if_pos rfl, if_pos rfl]; exact ev
        have oc : ∀ c, c ≠ r → ∀ i, hI hx c i = hI h c i := fun c hc => f.2.2.2.2.1 c hc
        refine sp_addStep (by omega) r (pcI j) (j, 0) out (H0.fr f) ⟨(g 4 (by decide) (by decide)).trans O.1, fun i q hq => by rw [oc (r + 3) (by omega)]; exact O.2 i q hq⟩ (by omega) (pcI_cd hj12 (by omega)) (fun h' f' g' O' => ?_)
        rw [rV_none]
        have F : Fr' h h' (fun c => c = r ∨ c = r + 3) := (f.mono (fun c z => Or.inl z)).trans f'
        have D7 : hI h r 7 = nI (brc l) := by rw [D.2, brc_c, if_neg hj12, Nat.zero_add]
        refine rl_loop hd r th ht l (out ++ [(j, 0)]) h' (fun k hk => hv k (by simp [hk])) (by omega) (by simp; omega) (H0.fr F) ⟨(g' 5 (by decide)).trans g5, o3.cg (fun i hi => by rw [F.2.2.2.2.1 (r + 4) (by omega)])⟩ ⟨(g' 6 (by decide)).trans g6, (g' 7 (by decide)).trans ((g 7 (by decide) (by decide)).trans D7)⟩ O' (F.2.2.1.trans n1) (F.2.2.2.1.trans n2) (fun h2 f2 g2 p2 d2 o2 => k h2 (F.trans f2) (fun i i4 i5 i6 => (g2 i i4 i5 i6).trans ((g' i i4).trans (g i i5 i6))) p2 d2 (by rw [List.append_assoc] at o2; exact o2))
      have d9 := pc_9 j vj.2 vj.1
      have hdl : dpt l ≤ 35 := by have := dpt_le l; omega
      refine ⟨fun y => go _ ?_ _ rfl, fun y => go _ ?_ _ rfl⟩
      · rw [D.1, dpt_c, if_neg (fun c => c.elim (fun c => y (d9.mpr c)) hj12), Nat.zero_add, Int32.sub_zero]
      · rw [D.1, dpt_c, if_pos (Or.inl (d9.mp y)), Nat.add_comm]
        exact nI_sub1 _
theorem sp_release {d : Nat} {h : AH} {Q : Option Value → AH → Prop} (hd : 7 ≤ d) (r th : Nat) (ht : th < 100) (pile : List Nat) (out : List (Nat × Nat)) (hv : ∀ k ∈ pile, 2 ≤ k ∧ k < 16) (hl : pile.length ≤ 35) (hs : out.length + pile.length ≤ 400) (H : RdS h r) (P : RdP h r pile) (D : RdD h r pile) (O : RdO h r out) (k : ∀ h', Fr' h h' (fun c => c = r ∨ c = r + 3) → (∀ j, j ≠ 4 → j ≠ 5 → j ≠ 6 → hI h' r j = hI h r j) → RdP h' r (rstL th pile) → RdD h' r (rstL th pile) → RdO h' r (out ++ emL th pile) → Q none h') : Calls d nX7_release [.ref r, .int (nI th)] h (hN h) (hU h) Q := by
  obtain ⟨e, rfl⟩ : ∃ e, d = e + 1 := ⟨d - 1, by omega⟩
  exact calls_intro (q := (yX7_release, cX7_release, 2, none, 7, 1, 1)) rfl (Nat.le_refl _) (Nat.le_refl _) (Nat.le_of_ble_eq_true rfl) (rl_loop (by omega) r th ht pile out h hv hl hs H P D O rfl rfl k)
