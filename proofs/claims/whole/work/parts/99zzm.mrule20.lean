/-! the clauses of a rule -/
theorem m_blanksX {d : Nat} {h : AH} {Q : Option Value → AH → Prop} (hd : 6 ≤ d) (m n p : Nat) (t : Nat → Int32) (H : MTp h m n t) (hp : p ≤ n + 1) (e22 : hI h m 22 = nI p) (k : ∀ h', Fr' h h' (fun c => c = m) → (∀ j, j ≠ 22 → hI h' m j = hI h m j) → Q none h') : Calls d nX12_blanks [.ref m] h (hN h) (hU h) Q := by
  by_cases c : p ≤ n
  · exact m_blanks hd m n p t H c e22 (fun h' f g _ => k h' f g)
  · obtain ⟨e, rfl⟩ : ∃ e, d = e + 1 := ⟨d - 1, by omega⟩
    have hn := H.2.2.1
    refine calls_intro (q := (yX12_blanks, cX12_blanks, 1, none, 12, 1, 0)) rfl (Nat.le_refl _) (Nat.le_refl _) (Nat.le_of_ble_eq_true rfl) (wX12_blanks_0 (by omega) m ?_)
    simp only [mdq_0 H.1, true_and]
    refine m_sign (by omega) m n p t H (by omega) e22 ?_
    simp only [rI_some, rt_i, rt_b0, rt_b1, rt_v, rt_l, rt_o, rt_a, rV_none, rI_some, rL_some, rR_some, rT_some, sg_eq H.2.2.2.2 (k := 32) (by decide) (by decide)]
    exact ⟨fun _ => ⟨trivial, trivial, k h (Fr'.refl _ _) (fun _ _ => rfl)⟩, fun z => by omega⟩
theorem m_goesOnX {d : Nat} {h : AH} {Q : Option Value → AH → Prop} (hd : 7 ≤ d) (m n : Nat) (t : Nat → Int32) (fa : Int32) (H : MFx h m n t fa) (k : ∀ h', Fr' h h' (fun c => c = m) → (∀ j, j ≠ 22 → hI h' m j = hI h m j) → Q (some (.int 0)) h') : Calls d nX12_goesOn [.ref m] h (hN h) (hU h) Q := by
  obtain ⟨e, rfl⟩ : ∃ e, d = e + 1 := ⟨d - 1, by omega⟩
  obtain ⟨T, ⟨p, hp, e22⟩, e23, hf⟩ := H
  refine wX12_goesOn (by omega) m ⟨by rw [mdq_0 T.1], m_blanksX (by omega) m n p t T hp e22 (fun h1 f1 g1 => ?_)⟩
  have T1 := T.fr f1 (g1 21 (by decide)) (by omega)
  have e231 : hI h1 m 23 = fa := (g1 23 (by decide)).trans e23
  rw [rV_none]
  have hf' : ¬ hI h1 m 23 = 0 := by rw [e231]; exact hf
  refine ⟨by rw [mdq_0 T1.1], fun _ => ⟨by rw [mdq_0 T1.1], fun _ => ⟨by rw [mdq_0 T1.1], by rw [mdq_0 T1.1], ?_⟩, fun z => absurd z hf'⟩, fun z => absurd z hf'⟩
  rw [lH_eq, rt_b0]
  have f2 : Fr' h (sI h1 m 22 (hI h1 m 22 + 1)) (fun c => c = m) := f1.trans (Fr'.sI rfl)
  exact ⟨f2.2.2.1, f2.2.2.2.1, k _ f2 (fun j hj => by rw [hI_sI, if_pos rfl, if_neg hj]; exact g1 j hj)⟩
theorem rlM_loop {d E1 E2 : Nat} {Q : Option Value → AH → Prop} (hd : 14 ≤ d) (m n r : Nat) (t : Nat → Int32) (R : Int32 × List (List (Nat × Nat) × List (Nat × Nat))) : ∀ (w p pa : Nat) (cl : List (List (Nat × Nat) × List (Nat × Nat))) (h : AH), 13 - cl.length ≤ w → MM h m n r t (p, 0, [], pa, cl, [], []) → hI h m 27 = nI 0 → SA h m r cl → rnM t n (p, 0, [], pa, cl, [], []) = R → hI h m 30 = 12 → (∀ h' v1, FRr h h' m r → ModAt h' m → hI h' m 23 = R.1 → (R.1 = 0 → v1 = R.2.length ∧ ES h' m r (flK R.2) ∧ SA h' m r R.2) → Reach d nX12_rule (27, [.ref m, .int (nI v1), .int 0], []) h' E1 E2 Q) → Reach d nX12_rule (27, [.ref m, .int (nI cl.length), .int 1], []) h E1 E2 Q
  | 0, p, pa, cl, h, hw, H, e27, hA, hrn, e30, k => by
    have l12 : cl.length ≤ 12 := H.2.2.2.2.2.2.2.1.2.2.1
    omega
  | w + 1, p, pa, cl, h, hw, H, e27, hA, hrn, e30, k => by
    refine wX12_rule_27 (by omega) m (nI cl.length) 1 ⟨fun z => absurd z (by decide), fun _ => ⟨by rw [mdq_0 H.1.1], ?_⟩⟩
    refine m_ruleClause hd m n r p pa t R cl H e27 hA hrn e30 (fun h1 f1 B => ?_)
    rw [rV_none]
    have ln : ∀ c : List (Nat × Nat) × List (Nat × Nat), (cl ++ [c]).length = cl.length + 1 := fun c => by simp
    rcases B with X | ⟨p', pa', c, T, ⟨e22, hp'⟩, e23, ⟨e24, hr⟩, E, e28, e271, hA1, l11, C⟩
    · refine ⟨by rw [mdq_0 X.1.1], m_goesOnX (by omega) m n t R.1 X (fun h2 f2 g2 => ?_)⟩
      rw [rI_some, nI_1]
      have F2 : FRr h1 h2 m r := (FRm.m (r := r) f2 (fun j a _ _ _ _ _ => g2 j a)).r
      exact k h2 (cl.length + 1) (f1.trans F2) (X.1.1.fr f2) ((g2 23 (by decide)).trans X.2.2.1) (fun z => absurd z X.2.2.2)
    · obtain ⟨C0, C1, C2⟩ := C
      have hn4 := T.2.2.1
      refine ⟨by rw [mdq_0 T.1], m_goesOn (by omega) m n p' t T hp' e22 (fun h2 f2 g2 q2 a2 => ?_)⟩
      have F2 : FRr h1 h2 m r := (FRm.m (r := r) f2 (fun j a b _ _ _ _ => g2 j a b)).r
      have E2' : ES h2 m r (flK (cl ++ [c])) := E.cg (g2 26 (by decide) (by decide)) (f2.2.2.2.2.1 (m + 22) (by omega)) (f2.2.2.2.2.1 (m + 23) (by omega))
      have hA2 : SA h2 m r (cl ++ [c]) := hA1.cg (fun b h1 h2 j _ _ => f2.2.2.2.2.1 b (by omega) j)
      have FF := f1.trans F2
      have hq : sk t n p' ≤ n := ru_le hp'
      rw [rI_some, nI_1]
      rw [e23] at a2 ⊢
      by_cases c59 : sk t n p' < n ∧ t (sk t n p') = 59
      · rw [bI_pos ⟨rfl, c59⟩, ← ln c]
        obtain ⟨I', rn'⟩ := C1 c59.1 c59.2
        have a2 : hI h2 m 23 = 0 := by
          rw [a2]
          unfold goF
          rw [if_pos rfl, if_neg (fun z => z.2 c59.2)]
        refine rlM_loop hd m n r t R w (sk t n p' + 1) pa' (cl ++ [c]) h2 (by rw [ln]; omega) ⟨T.fr f2 (g2 21 (by decide) (by decide)) (by omega), ⟨q2, by omega⟩, a2, ⟨(g2 24 (by decide) (by decide)).trans e24, hr⟩, by rw [List.append_nil, List.append_nil]; exact E2', (g2 28 (by decide) (by decide)).trans e28, I'⟩ ((g2 27 (by decide) (by decide)).trans e271) hA2 rn' (FF.m30.trans e30) (fun h' v1 f' => k h' v1 (FF.trans f'))
      · rw [bI_neg (fun z => c59 z.2)]
        have hM := T.1.fr f2
        by_cases ce : n ≤ sk t n p'
        · have eR := C0 ce
          have a2 : hI h2 m 23 = 0 := by
            rw [a2]
            unfold goF
            rw [if_pos rfl, if_neg (fun z => by omega)]
          subst eR
          exact k h2 (cl.length + 1) FF hM a2 (fun _ => ⟨(ln c).symm, E2', hA2⟩)
        · have eR := C2 (by omega) (fun z => c59 ⟨by omega, z⟩)
          have ne : rfF 0 (sk t n p') 0 ≠ 0 := rfF_ne (fa := 0) (q := sk t n p') (c := 0) (by omega) (by omega)
          have a2 : hI h2 m 23 = rfF 0 (sk t n p') 0 := by
            rw [a2]
            unfold goF
            rw [if_pos rfl, if_pos ⟨by omega, fun z => c59 ⟨by omega, z⟩⟩]
          subst eR
          exact k h2 (cl.length + 1) FF hM a2 (fun z => absurd z ne)
theorem rcls_cg {so nu sa ta ea so' nu' sa' ta' ea' : Nat → Int32} {r : Nat} (h1 : ∀ j, 300 * r ≤ j → j < 300 * r + 300 → so' j = so j ∧ nu' j = nu j) (h2 : ∀ j, 12 * r ≤ j → j < 12 * r + 12 → sa' j = sa j ∧ ta' j = ta j ∧ ea' j = ea j) : ∀ (cls : List (List (Nat × Nat) × List (Nat × Nat))) (c o : Nat), c + cls.length ≤ 12 → rcls so nu sa ta ea r c o cls → rcls so' nu' sa' ta' ea' r c o cls
  | [], c, o, _, _ => trivial
  | q :: rest, c, o, hc, H => by
    obtain ⟨a1, a2, a3, a4, a5, a6, a7, a8⟩ := H
    have hc' : c + 1 + rest.length ≤ 12 := by simp at hc; omega
    obtain ⟨b1, b2, b3⟩ := h2 (12 * r + c) (by omega) (by omega)
    have sg : ∀ (x : Nat) (ops : List (Nat × Nat)), 300 * r ≤ x → x + ops.length ≤ 300 * r + 300 → rseg so nu x ops → rseg so' nu' x ops := fun x ops l1 l2 hs j q' hq => by
      have := getq_lt hq
      obtain ⟨c1, c2, c3⟩ := hs j q' hq
      obtain ⟨d1, d2⟩ := h1 (x + j) (by omega) (by omega)
      exact ⟨c1, d1.trans c2, d2.trans c3⟩
    exact ⟨b1.trans a1, b2.trans a2, b3.trans a3, a4, sg _ _ (by omega) (by omega) a5, sg _ _ (by omega) (by omega) a6, a7, rcls_cg h1 h2 rest (c + 1) _ hc' a8⟩
theorem rcls_of {h : AH} {m r : Nat} (cls : List (List (Nat × Nat) × List (Nat × Nat))) (E : ES h m r (flK cls)) (A : SA h m r cls) (hl : (flK cls).length ≤ 300) (hk : ∀ c ∈ cls, clR c ∧ ∀ q ∈ c.1 ++ c.2, opOk q) : ∀ (rest pre : List (List (Nat × Nat) × List (Nat × Nat))), cls = pre ++ rest → rcls (hI h (m + 22)) (hI h (m + 23)) (hI h (m + 25)) (hI h (m + 26)) (hI h (m + 27)) r pre.length (flK pre).length rest
  | [], pre, _ => trivial
  | q :: rest, pre, e => by
    have hi : cls[pre.length]? = some q := by rw [e, List.getElem?_append_right (Nat.le_refl _)]; simp
    obtain ⟨a1, a2, a3⟩ := A pre.length q hi
    have tk : cls.take pre.length = pre := by rw [e, List.take_append_of_le_length (Nat.le_refl _), List.take_length]
    rw [tk] at a1 a2 a3
    have fl2 : ∀ (x y : List (List (Nat × Nat) × List (Nat × Nat))), flK (x ++ y) = flK x ++ flK y := fun x y => by
      induction x with
      | nil => rfl
      | cons a x ih => simp [flK, ih]
    have ef : flK cls = flK pre ++ (q.1 ++ (q.2 ++ flK rest)) := by rw [e, fl2]; simp [flK]
    have hl' := hl
    rw [ef] at hl'
    simp only [List.length_append] at hl'
    obtain ⟨k1, k2⟩ := hk q (by rw [e]; simp)
    have ep : cls = (pre ++ [q]) ++ rest := by rw [e]; simp
    have ih := rcls_of cls E A hl hk rest (pre ++ [q]) ep
    have lp : (pre ++ [q]).length = pre.length + 1 := by simp
    have lf : (flK (pre ++ [q])).length = (flK pre).length + q.1.length + q.2.length := by rw [flK_app]; simp; omega
    rw [lp, lf] at ih
    refine ⟨a1, a2, a3, by omega, fun j u hu => ?_, fun j u hu => ?_, k1, ih⟩
    · have hj := getq_lt hu
      have : (flK cls)[(flK pre).length + j]? = some u := by
        rw [ef, List.getElem?_append_right (by omega), Nat.add_sub_cancel_left, List.getElem?_append_left hj]
        exact hu
      obtain ⟨b1, b2⟩ := E.2 _ u this
      rw [← Nat.add_assoc] at b1 b2
      exact ⟨k2 u (List.mem_append_left _ (List.mem_of_getElem? hu)), b1, b2⟩
    · have hj := getq_lt hu
      have : (flK cls)[(flK pre).length + q.1.length + j]? = some u := by
        rw [ef, List.getElem?_append_right (by omega), Nat.add_assoc, Nat.add_sub_cancel_left, List.getElem?_append_right (by omega), Nat.add_sub_cancel_left, List.getElem?_append_left hj]
        exact hu
      obtain ⟨b1, b2⟩ := E.2 _ u this
      rw [← Nat.add_assoc] at b1 b2
      exact ⟨k2 u (List.mem_append_right _ (List.mem_of_getElem? hu)), b1, b2⟩
