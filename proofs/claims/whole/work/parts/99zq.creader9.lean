/-! the class's rule is built -/
theorem hS_nD (h : AH) (a b : Nat) : hS (nD h a) b = if b = hN h then (1, (hS h a).2) else hS h b := rfl
theorem hI_nD (h : AH) (a b j : Nat) : hI (nD h a) b j = if b = hN h then hI h a j else hI h b j := by
  show (up1 h.2.1 (hN h) (hI h a) b) j = _
  unfold up1
  split <;> rfl
theorem frg_nD (h : AH) (a : Nat) (S : Nat → Prop) : FrG h (nD h a) S := by
  have hn : hN (nD h a) = hN h + 1 := rfl
  refine ⟨by omega, fun b hb => by rw [hS_nD, if_neg (by omega)], fun b hb _ => ⟨fun j => ?_, fun j => by rw [hI_nD, if_neg (by omega)], fun j => ?_⟩, fun w b hb => ?_⟩
  · show (up1 h.2.2.2.1 (hN h) (fun _ => 0) b) j = _
    unfold up1
    rw [if_neg (by omega)]
    rfl
  · show (up1 h.2.2.1 (hN h) (fun _ => 0) b) j = _
    unfold up1
    rw [if_neg (by omega)]
    rfl
  · rw [hS_nD] at hb
    split at hb
    · omega
    · have := w b hb; omega
theorem sp_copyOf {d : Nat} {h : AH} {Q : Option Value → AH → Prop} (hd : 5 ≤ d) (a m n0 : Nat) (hs : hS h a = (1, n0)) (hm : m ≤ n0) (hn : n0 ≤ 60000) (ha : a < hN h) (k : ∀ h', FrG h h' (fun _ => False) → hN h' = hN h + 1 → hU h' = hU h + m → hS h' (hN h) = (1, m) → (∀ j, j < m → hI h' (hN h) j = hI h a j) → Q (some (.ref (hN h))) h') : Calls d nJ7_copyOf_59c91 [.ref a, .int (nI m)] h (hN h + 1) (hU h + m) Q := by
  obtain ⟨e, rfl⟩ : ∃ e, d = e + 1 := ⟨d - 1, by omega⟩
  have eo : Int32.ofNat n0 = nI n0 := rfl
  have em : (nI m = nI n0) = (m = n0) := nI_eq_iff (by omega) (by omega)
  have lt : (nI m < nI n0) = (m < n0) := nI_lt_iff (by omega) (by omega)
  have cm : (nI m).toNatClampNeg = m := nI_clamp (by omega)
  have neg : ¬ nI m < 0 := fun z => by
    have := (nI_lt_iff (show m < 2 ^ 31 by omega) (b := 0) (by decide)).mp z
    omega
  have l0 : Int32.toNatClampNeg 0 = 0 := rfl
  refine wJ7_copyOf_59c91 (by omega) (by omega) (by omega) a (nI m) ?_
  simp only [hs, eo, em, cm, lH_eq]
  refine ⟨by decide, by decide, fun z => ?_, fun z => ?_⟩
  · have ltm : m < n0 := by omega
    have sa : hS (nC h 1 m) a = (1, n0) := by rw [hS_nC, if_neg (by omega)]; exact hs
    have sb : hS (nC h 1 m) (hN h) = (1, m) := by rw [hS_nC, if_pos rfl]
    simp only [sa, sb, eo, lt, if_pos ltm, cm, l0, rt_i, rt_b0, rt_b1, rt_v, rt_l, rt_o, rt_a, rV_none, rI_some, rL_some, rR_some, rT_some, rt_bI, hIf_sL, hIf_sR, hS_sI, hS_sL, hS_sR, hS_cpI, hR_sI, hR_sL, hR_cpI, hL_sI, hL_sR, hL_cpI, hI_sL, hI_sR, hN_sI, hN_sL, hN_sR, hN_cpI, hU_sI, hU_sL, hU_sR, hU_cpI, tn0, tn1, tn2, tn3, tn4, tn5, tn6, tn7, tn8, tn9, tn10, tn11, tn12, tn13, tn14, tn15, tn16, tn17, tn18, tn19, tn20, tn21, tn22, tn23, tn24, tn25, tn26, tn27, tn28, tn29, tn30, tn31, tn32, tn33, tn34, tn35, tn36, tn37, tn38, tn39, tn40, tn41, tn42, tn43, tn44, tn45, tn46, tn47, tn48, tn49, tn50, tn51, tn52, tn53, tn54, tn55, tn56, tn57, tn58, tn59, tn60, lH_eq, true_and, and_true]
    refine ⟨neg, by omega, by omega, by omega, by decide, by decide, by decide, by decide, neg, by omega, by omega, rfl, rfl, ?_⟩
    have f : FrG h (cpI (nC h 1 m) a 0 (hN h) 0 m) (fun _ => False) := frg_cpI (frg_nC (FrG.refl _ _)) (fun z => absurd z (Nat.lt_irrefl _))
    refine k _ f rfl rfl (by rw [hS_cpI]; exact sb) (fun j hj => ?_)
    rw [hI_cp0, if_pos rfl, if_pos hj, hI_nC, if_neg (by omega)]
  · subst z
    have sb : hS (nD h a) (hN h) = (1, m) := by rw [hS_nD, if_pos rfl, hs]
    simp only [sb, rt_i, rt_b0, rt_b1, rt_v, rt_l, rt_o, rt_a, rV_none, rI_some, rL_some, rR_some, rT_some, rt_bI, hIf_sL, hIf_sR, hS_sI, hS_sL, hS_sR, hS_cpI, hR_sI, hR_sL, hR_cpI, hL_sI, hL_sR, hL_cpI, hI_sL, hI_sR, hN_sI, hN_sL, hN_sR, hN_cpI, hU_sI, hU_sL, hU_sR, hU_cpI, tn0, tn1, tn2, tn3, tn4, tn5, tn6, tn7, tn8, tn9, tn10, tn11, tn12, tn13, tn14, tn15, tn16, tn17, tn18, tn19, tn20, tn21, tn22, tn23, tn24, tn25, tn26, tn27, tn28, tn29, tn30, tn31, tn32, tn33, tn34, tn35, tn36, tn37, tn38, tn39, tn40, tn41, tn42, tn43, tn44, tn45, tn46, tn47, tn48, tn49, tn50, tn51, tn52, tn53, tn54, tn55, tn56, tn57, tn58, tn59, tn60, lH_eq, true_and, and_true]
    refine ⟨by omega, by omega, rfl, ?_, k _ (frg_nD h a _) rfl ?_ sb (fun j hj => by rw [hI_nD, if_pos rfl])⟩
    · show hU h + (hS h a).2 = _
      rw [hs]
    · show hU h + (hS h a).2 = _
      rw [hs]
theorem cls_of {st f : Nat → Int32} {n1 : Nat} : ∀ {c o : Nat} {cls : List (List (Nat × Nat) × List (Nat × Nat))}, bdC f c o cls → (∀ (j : Nat) (q : Nat × Nat), (flK cls)[j]? = some q → st (o + j) = cdI q) → o + (flK cls).length ≤ n1 → (∀ x ∈ cls, clR x ∧ ∀ q ∈ x.1 ++ x.2, opOk q) → clsAt st f n1 c o cls
  | c, o, [], _, _, _, _ => trivial
  | c, o, x :: r, hb, hs, hl, hok => by
    have hx := hok x (by simp)
    simp only [flK, List.length_append] at hl
    have hb2 : f (2 * c + 2) = nI (o + x.1.length + x.2.length) := by
      have := hb.2.2
      cases r with
      | nil => rw [show 2 * c + 2 = 2 * (c + 1) by omega]; exact this
      | cons y r => rw [show 2 * c + 2 = 2 * (c + 1) by omega]; exact this.1
    refine ⟨hb.1, hb.2.1, hb2, by omega, fun j q hj => ?_, fun j q hj => ?_, hx.1, cls_of hb.2.2 (fun j q hj => ?_) (by omega) (fun y hy => hok y (by simp [hy]))⟩
    · refine ⟨hx.2 q (by have := List.mem_of_getElem? hj; simp [this]), hs j q ?_⟩
      have hl := getq_lt hj
      simp only [flK]
      rw [List.append_assoc, List.getElem?_append_left hl]
      exact hj
    · refine ⟨hx.2 q (by have := List.mem_of_getElem? hj; simp [this]), ?_⟩
      have hl := getq_lt hj
      rw [Nat.add_assoc]
      refine hs (x.1.length + j) q ?_
      simp only [flK]
      rw [List.append_assoc, List.getElem?_append_right (by omega), Nat.add_sub_cancel_left, List.getElem?_append_left hl]
      exact hj
    · rw [show o + x.1.length + x.2.length + j = o + (x.1.length + x.2.length + j) by omega]
      refine hs _ q ?_
      simp only [flK]
      rw [List.getElem?_append_right (by rw [List.length_append]; omega)]
      simp only [List.length_append]
      rw [show x.1.length + x.2.length + j - (x.1.length + x.2.length) = j by omega]
      exact hj
def ruV (cls : List (List (Nat × Nat) × List (Nat × Nat))) : Nat := 3 + (flK cls).length + (2 * cls.length + 1)
theorem rd_build {d E1 E2 : Nat} {Q : Option Value → AH → Prop} {h : AH} (hd : 5 ≤ d) (r : Nat) (cls : List (List (Nat × Nat) × List (Nat × Nat))) (ok : ruOk cls) (H : RdS h r) (hr : r + 5 < hN h) (O : RdO h r (flK cls)) (e9 : hI h r 9 = nI cls.length) (B : bdC (hI h (r + 5)) 0 0 cls) (hE1 : hN h + 3 = E1) (hE2 : hU h + ruV cls = E2) (k : ∀ h', FrG h h' (fun _ => False) → hN h' = E1 → hU h' = E2 → RulAt h' (hN h) cls → Q (some (.ref (hN h))) h') : hN h + 1 ≤ E1 ∧ hU h + fN 6 ≤ E2 ∧ lH (nC h (10 + 6) (fN 6)) fun h1 => (hS h1 r).1 = 10 + 7 ∧ (hS h1 r).1 = 10 + 7 ∧ ∃ F12 F13, F12 ≤ E1 ∧ F13 ≤ E2 ∧ Calls d 247 [.ref (hR h1 r 1), .int (hI h1 r 4)] h1 F12 F13 (fun r3 h2 => rR r3 fun x4 => (hS h2 r).1 = 10 + 7 ∧ (hS h2 r).1 = 10 + 7 ∧ ∃ F10 F11, F10 ≤ E1 ∧ F11 ≤ E2 ∧ Calls d 247 [.ref (hR h2 r 3), .int ((2 * (hI h2 r 9)) + 1)] h2 F10 F11 (fun r6 h5 => rR r6 fun x7 => (hS h5 r).1 = 10 + 7 ∧ (hS h5 (hN h)).1 = 10 + 6 ∧ Calls d 50 [.ref (hN h), .ref x4, .ref x7, .int (hI h5 r 9)] h5 (hN h5) (hU h5) (fun r9 h8 => rV r9 (RtOf (some (.object "HeadHill$Rule")) E1 E2 Q (some (.ref (hN h))) h8)))) := by
  obtain ⟨o1, o2, o3, o4⟩ := ok
  have hf : fN 6 = 3 := rfl
  unfold ruV at hE2
  have hc : hN (nC h 16 3) = hN h + 1 := rfl
  have hcu : hU (nC h 16 3) = hU h + 3 := rfl
  have f0 : FrG h (nC h 16 3) (fun _ => False) := frg_nC (FrG.refl _ _)
  have g0 : ∀ c, c < hN h → (∀ j, hR (nC h 16 3) c j = hR h c j) ∧ (∀ j, hI (nC h 16 3) c j = hI h c j) := fun c hc => ⟨(f0.2.2.1 c hc (fun z => z)).1, (f0.2.2.1 c hc (fun z => z)).2.1⟩
  have s0 : ∀ c, c < hN h → hS (nC h 16 3) c = hS h c := f0.2.1
  have sN : hS (nC h 16 3) (hN h) = (16, 3) := by rw [hS_nC, if_pos rfl]
  refine ⟨by omega, by omega, ?_⟩
  intro h1 e1
  have e1 : h1 = nC h 16 3 := e1
  rw [← e1] at hc hcu f0 g0 s0 sN
  clear e1
  obtain ⟨a1, a2, a3, a4, a5, a6, a7, a8⟩ := H
  have b1 : hS h1 r = (17, 11) := (s0 r (by omega)).trans a1
  rw [(g0 r (by omega)).1, (g0 r (by omega)).2, a3, O.1]
  refine ⟨by rw [b1], by rw [b1], hN h1 + 1, hU h1 + (flK cls).length, by omega, by omega, ?_⟩
  refine sp_copyOf hd (r + 3) (flK cls).length 400 ((s0 (r + 3) (by omega)).trans a6) (by omega) (by omega) (by omega) (fun h2 f2 n2 u2 s2 c2 => ?_)
  have F2 : FrG h h2 (fun _ => False) := f0.trans f2 (fun c _ z => z)
  have g2 : ∀ c, c < hN h1 → (∀ j, hR h2 c j = hR h1 c j) ∧ (∀ j, hI h2 c j = hI h1 c j) := fun c hc => ⟨(f2.2.2.1 c hc (fun z => z)).1, (f2.2.2.1 c hc (fun z => z)).2.1⟩
  have ix : 2 * nI cls.length + 1 = nI (2 * cls.length + 1) := by rw [nI_two, nI_1]
  have b2 : hS h2 r = (17, 11) := (f2.2.1 r (by omega)).trans b1
  rw [rR_some, (g2 r (by omega)).1, (g0 r (by omega)).1, a5, (g2 r (by omega)).2, (g0 r (by omega)).2, e9, ix]
  refine ⟨by rw [b2], by rw [b2], hN h2 + 1, hU h2 + (2 * cls.length + 1), by omega, by omega, ?_⟩
  refine sp_copyOf hd (r + 5) (2 * cls.length + 1) 25 ((f2.2.1 (r + 5) (by omega)).trans ((s0 (r + 5) (by omega)).trans a8)) (by omega) (by omega) (by omega) (fun h5 f5 n5 u5 s5 c5 => ?_)
  have F5 : FrG h h5 (fun _ => False) := F2.trans f5 (fun c _ z => z)
  have g5 : ∀ c, c < hN h2 → (∀ j, hR h5 c j = hR h2 c j) ∧ (∀ j, hI h5 c j = hI h2 c j) := fun c hc => ⟨(f5.2.2.1 c hc (fun z => z)).1, (f5.2.2.1 c hc (fun z => z)).2.1⟩
  have b5 : hS h5 r = (17, 11) := (f5.2.1 r (by omega)).trans b2
  have sN5 : hS h5 (hN h) = (16, 3) := (f5.2.1 (hN h) (by omega)).trans ((f2.2.1 (hN h) (by omega)).trans sN)
  rw [rR_some, (g5 r (by omega)).2, (g2 r (by omega)).2, (g0 r (by omega)).2, e9]
  refine ⟨by rw [b5], by rw [sN5], ?_⟩
  obtain ⟨e, rfl⟩ : ∃ e, d = e + 1 := ⟨d - 1, by omega⟩
  refine wX6_init (by omega) (hN h) (hN h1) (hN h2) (nI cls.length) ?_
  simp only [rt_i, rt_b0, rt_b1, rt_v, rt_l, rt_o, rt_a, rV_none, rI_some, rL_some, rR_some, rT_some, rt_bI, hIf_sL, hIf_sR, hS_sI, hS_sL, hS_sR, hS_cpI, hR_sI, hR_sL, hR_cpI, hL_sI, hL_sR, hL_cpI, hI_sL, hI_sR, hN_sI, hN_sL, hN_sR, hN_cpI, hU_sI, hU_sL, hU_sR, hU_cpI, tn0, tn1, tn2, tn3, tn4, tn5, tn6, tn7, tn8, tn9, tn10, tn11, tn12, tn13, tn14, tn15, tn16, tn17, tn18, tn19, tn20, tn21, tn22, tn23, tn24, tn25, tn26, tn27, tn28, tn29, tn30, tn31, tn32, tn33, tn34, tn35, tn36, tn37, tn38, tn39, tn40, tn41, tn42, tn43, tn44, tn45, tn46, tn47, tn48, tn49, tn50, tn51, tn52, tn53, tn54, tn55, tn56, tn57, tn58, tn59, tn60, lH_eq, true_and, and_true, sN5]
  have F8 : FrG h (sI (sR (sR h5 (hN h) 0 (hN h1)) (hN h) 1 (hN h2)) (hN h) 2 (nI cls.length)) (fun _ => False) := frg_sI (frg_sR (frg_sR F5 (fun z => by omega)) (fun z => by omega)) (fun z => by omega)
  refine ⟨by omega, by omega, k _ F8 (by show hN h5 = E1; omega) (by show hU h5 = E2; omega) ⟨(flK cls).length, by omega, o2, ?_, ?_, ?_, ?_, ?_, ?_, ?_⟩⟩
  · refine cls_of ?_ (fun j q hj => ?_) (by omega) o4
    · refine B.cg (fun j hj => ?_)
      rw [hI_sI, if_neg (by omega), hI_sR, hI_sR, show hN h + 2 = hN h2 by omega, c5 j (by omega), (g2 (r + 5) (by omega)).2, (g0 (r + 5) (by omega)).2]
    · have hl := getq_lt hj
      rw [hI_sI, if_neg (by omega), hI_sR, hI_sR, (g5 (hN h + 1) (by omega)).2, show hN h + 1 = hN h1 by omega, Nat.zero_add, c2 j (by omega), (g0 (r + 3) (by omega)).2]
      exact O.2 j q hj
  · exact sN5
  · rw [hR_sI, hR_sR, if_pos rfl, if_neg (by decide), hR_sR, if_pos rfl, if_pos rfl]; omega
  · rw [hR_sI, hR_sR, if_pos rfl, if_pos rfl]; omega
  · show hS h5 (hN h + 1) = _
    rw [f5.2.1 (hN h + 1) (by omega), show hN h + 1 = hN h1 by omega]; exact s2
  · show hS h5 (hN h + 2) = _
    rw [show hN h + 2 = hN h2 by omega]; exact s5
  · rw [hI_sI, if_pos rfl, if_pos rfl]
