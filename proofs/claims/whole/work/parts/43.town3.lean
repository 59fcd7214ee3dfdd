/-! a town of the class, as a value -/
def BfOk (h : AH) (t : Nat) : Prop := ∀ i, i < 20 → hR h (t + 7) i ≠ 0 → MomAt h (hR h (t + 7) i) ∧ hR h (t + 7) i ≠ t + 1 ∧ (∀ j, j < 20 → hR h (t + 7) j = hR h (t + 7) i → j = i)
def TownIs (h : AH) (t : Nat) : TW → Prop
  | (nr, nw, A, fo, x, M, ps, ns) => TwnAt h t ∧ (nr ≤ 5 ∧ nw ≤ 6 ∧ ps.length ≤ 20 ∧ ns.length ≤ 10) ∧ HilO h (hR h t 0) nr nw A ∧ (hI h t 1 = fo ∧ hI h t 2 = x ∧ hI h t 5 = nI ps.length ∧ hI h t 9 = nI ns.length) ∧ MomIs h (t + 1) nr nw M ∧ BfOk h t ∧ (∀ k N, ps[k]? = some N → hR h (t + 7) k ≠ 0 ∧ MomIs h (hR h (t + 7) k) nr nw N) ∧ (∀ k q, ns[k]? = some q → hI h (t + 8) k = nI q.1 ∧ hI h (t + 9) k = nI q.2.1 ∧ hI h (t + 10) k = q.2.2)
/-- all but the number of acts -/
def TownQ (h : AH) (t : Nat) : TW → Prop
  | (nr, nw, A, fo, x, M, ps, ns) => TwnAt h t ∧ (nr ≤ 5 ∧ nw ≤ 6 ∧ ps.length ≤ 20 ∧ ns.length ≤ 10) ∧ HilO h (hR h t 0) nr nw A ∧ (hI h t 1 = fo ∧ hI h t 2 = x ∧ hI h t 9 = nI ns.length) ∧ MomIs h (t + 1) nr nw M ∧ BfOk h t ∧ (∀ k N, ps[k]? = some N → hR h (t + 7) k ≠ 0 ∧ MomIs h (hR h (t + 7) k) nr nw N) ∧ (∀ k q, ns[k]? = some q → hI h (t + 8) k = nI q.1 ∧ hI h (t + 9) k = nI q.2.1 ∧ hI h (t + 10) k = q.2.2)
theorem TownIs.q {h : AH} {t : Nat} {T : TW} (H : TownIs h t T) : TownQ h t T := by
  obtain ⟨nr, nw, A, fo, x, M, ps, ns⟩ := T
  obtain ⟨H0, hb, HH, ⟨i1, i2, i3, i4⟩, hr⟩ := H
  exact ⟨H0, hb, HH, ⟨i1, i2, i4⟩, hr⟩
theorem TownQ.is {h : AH} {t nr nw : Nat} {A : PC} {fo x : Int32} {M : PC} {ps : List PC} {ns : List (Nat × Nat × Int32)} (H : TownQ h t (nr, nw, A, fo, x, M, ps, ns)) (e : hI h t 5 = nI ps.length) : TownIs h t (nr, nw, A, fo, x, M, ps, ns) := by
  obtain ⟨H0, hb, HH, ⟨i1, i2, i4⟩, hr⟩ := H
  exact ⟨H0, hb, HH, ⟨i1, i2, e, i4⟩, hr⟩
theorem MomIs.eq {h h' : AH} {a b nr nw : Nat} {M : PC} (HB : MomIs h b nr nw M) (hr : nr ≤ 5) (hw : nw ≤ 6) (HA : MomAt h' a) (e : momEq h h' a b) : MomIs h' a nr nw M := HB.of hr hw HA e.1 e.2.1 e.2.2
/-- cells of a moment that no one wrote -/
theorem MomIs.frg {h h' : AH} {a nr nw : Nat} {M : PC} {S : Nat → Prop} (w : wfA h) (HB : MomIs h a nr nw M) (hr : nr ≤ 5) (hw : nw ≤ 6) (f : FrG h h' S) (hs : ∀ b, a ≤ b → b ≤ a + 5 → ¬ S b) : MomIs h' a nr nw M := by
  have hl := HB.1.lt w
  have g := fun b (h1 : a ≤ b) (h2 : b ≤ a + 5) => f.2.2.1 b (by omega) (hs b h1 h2)
  refine HB.of hr hw (HB.1.frg w f (g a (by omega) (by omega)).1) ((g a (by omega) (by omega)).2.1 0) (fun j hj => ⟨(g (a + 1) (by omega) (by omega)).2.1 j, (g (a + 2) (by omega) (by omega)).2.1 j, (g (a + 3) (by omega) (by omega)).2.1 j⟩) (fun j hj => ⟨(g (a + 4) (by omega) (by omega)).2.1 j, (g (a + 5) (by omega) (by omega)).2.1 j⟩)
theorem HilIs.frg {h h' : AH} {a nr nw : Nat} {A : PC} {S : Nat → Prop} (w : wfA h) (H : HilIs h a nr nw A) (f : FrG h h' S) (hs : ∀ b, a ≤ b → b ≤ a + 5 → ¬ S b) : HilIs h' a nr nw A := by
  have hl : a + 5 < hN h := wf_lt w (hiq_10 H.1) (by decide)
  have g := fun b (h1 : a ≤ b) (h2 : b ≤ a + 5) => f.2.2.1 b (by omega) (hs b h1 h2)
  have gi : ∀ b, a ≤ b → b ≤ a + 5 → hI h' b = hI h b := fun b h1 h2 => funext (g b h1 h2).2.1
  obtain ⟨H0, H1, H2, H3, H4, H5, H6, H7, H8⟩ := H
  refine ⟨?_, ?_, ?_, H3, H4, ?_, ?_, ?_, H8⟩
  · simp only [HillAt, (g a (by omega) (by omega)).1, f.2.1 a (by omega), f.2.1 (a + 1) (by omega), f.2.1 (a + 2) (by omega), f.2.1 (a + 3) (by omega), f.2.1 (a + 4) (by omega), f.2.1 (a + 5) (by omega)] at H0 ⊢
    exact H0
  · rw [gi a (by omega) (by omega)]; exact H1
  · rw [gi a (by omega) (by omega)]; exact H2
  · simp only [eqA, pic, Nat.add_zero, gi a (by omega) (by omega), gi (a + 4) (by omega) (by omega), gi (a + 5) (by omega) (by omega)] at H5 ⊢
    exact H5
  · rw [gi (a + 1) (by omega) (by omega), gi (a + 2) (by omega) (by omega)]; exact H6
  · rw [gi (a + 3) (by omega) (by omega)]; exact H7
theorem HilO.frg {h h' : AH} {a nr nw : Nat} {A : PC} {S : Nat → Prop} (w : wfA h) (H : HilO h a nr nw A) (f : FrG h h' S) (hs : a ≠ 0 → ∀ b, a ≤ b → b ≤ a + 5 → ¬ S b) : HilO h' a nr nw A := by
  rcases H with H | ⟨H0, H⟩
  · exact Or.inl H
  · exact Or.inr ⟨H0, H.frg w f (hs H0)⟩
/-- a town whose cells no one wrote -/
theorem TownIs.frg {h h' : AH} {t : Nat} {T : TW} {S : Nat → Prop} (w : wfA h) (H : TownIs h t T) (f : FrG h h' S) (hs : ∀ b, t ≤ b → b ≤ t + 10 → ¬ S b) (hh : hR h t 0 ≠ 0 → ∀ b, hR h t 0 ≤ b → b ≤ hR h t 0 + 5 → ¬ S b) (hb : ∀ i, i < 20 → hR h (t + 7) i ≠ 0 → ∀ b, hR h (t + 7) i ≤ b → b ≤ hR h (t + 7) i + 5 → ¬ S b) : TownIs h' t T := by
  obtain ⟨nr, nw, A, fo, x, M, ps, ns⟩ := T
  obtain ⟨H0, ⟨b1, b2, b3, b4⟩, HH, ⟨i1, i2, i3, i4⟩, HM, HB, HP, HNs⟩ := H
  have lt := H0.lt w
  have g := fun b (h1 : t ≤ b) (h2 : b ≤ t + 10) => f.2.2.1 b (by omega) (hs b h1 h2)
  have gt := g t (by omega) (by omega)
  have g7 := (g (t + 7) (by omega) (by omega)).1
  refine ⟨H0.frg w f (fun j _ => gt.1 j) (g (t + 1) (by omega) (by omega)).1, ⟨b1, b2, b3, b4⟩, ?_, ?_, HM.frg w b1 b2 f (fun b h1 h2 => hs b (by omega) (by omega)), ?_, ?_, ?_⟩
  · rw [gt.1]; exact HH.frg w f hh
  · rw [gt.2.1, gt.2.1, gt.2.1, gt.2.1]; exact ⟨i1, i2, i3, i4⟩
  · intro i hi hn
    simp only [g7] at hn ⊢
    obtain ⟨p1, p2, p3⟩ := HB i hi hn
    have hl := p1.lt w
    exact ⟨p1.frg w f (f.2.2.1 _ (by omega) (hb i hi hn _ (by omega) (by omega))).1, p2, p3⟩
  · intro k N hk
    have hk20 : k < 20 := by have := getq_lt hk; omega
    obtain ⟨p1, p2⟩ := HP k N hk
    rw [g7]
    exact ⟨p1, p2.frg w b1 b2 f (hb k hk20 p1)⟩
  · intro k q hk
    rw [(g (t + 8) (by omega) (by omega)).2.1, (g (t + 9) (by omega) (by omega)).2.1, (g (t + 10) (by omega) (by omega)).2.1]
    exact HNs k q hk
theorem fo_loop {d E1 E2 : Nat} {Q : Option Value → AH → Prop} (hd : 4 ≤ d) (t : Nat) (h0 : AH) (w : wfA h0) (H : TwnAt h0 t) (hb : ∀ i, i < 20 → hR h0 (t + 7) i ≠ 0 ∧ MomAt h0 (hR h0 (t + 7) i)) (e1 : hN h0 = E1) (e2 : hU h0 = E2) (k : ∀ h', FrG h0 h' (fun c => c = t ∨ c = t + 7) → hN h' = hN h0 → hU h' = hU h0 → (∀ j, hR h' t j = hR h0 t j) → (∀ j, hI h' t j = if j = 5 then 19 else hI h0 t j) → (∀ j, j < 19 → hR h' (t + 7) j = hR h0 (t + 7) (j + 1)) → hR h' (t + 7) 19 = hR h0 (t + 7) 0 → Q none h') : ∀ (n i : Nat) (h : AH), i + n = 20 → 1 ≤ i → FrG h0 h (fun c => c = t + 7) → hN h = hN h0 → hU h = hU h0 → (∀ j, j < i - 1 → hR h (t + 7) j = hR h0 (t + 7) (j + 1)) → (∀ j, i - 1 ≤ j → hR h (t + 7) j = hR h0 (t + 7) j) → Reach d nX9_forgetOldest (9, [.ref t, .ref (hR h0 (t + 7) 0), .int (nI i)], []) h E1 E2 Q
  | 0, i, h, hi, h1, f, g1, g2, q1, q2 => by
    have : i = 20 := by omega
    subst this
    have lt := H.lt w
    have gt := f.2.2.1 t (by omega) (by omega)
    have m0 := hb 0 (by omega)
    have l0 := m0.2.lt w
    refine wX9_forgetOldest_9 hd t _ (nI 20) ?_
    simp only [rt_i, rt_b0, rt_b1, rt_v, rt_l, rt_o, rt_a, rV_none, rI_some, rL_some, rR_some, rT_some, rt_bI, hIf_sL, hIf_sR, hS_sI, hS_sL, hS_sR, hS_cpI, hR_sI, hR_sL, hR_cpI, hL_sI, hL_sR, hL_cpI, hI_sL, hI_sR, hN_sI, hN_sL, hN_sR, hN_cpI, hU_sI, hU_sL, hU_sR, hU_cpI, tn0, tn1, tn2, tn3, tn4, tn5, tn6, tn7, tn8, tn9, tn10, tn11, tn12, tn13, tn14, tn15, tn16, tn17, tn18, tn19, tn20, tn21, tn22, tn23, tn24, tn25, tn26, tn27, tn28, tn29, tn30, tn31, tn32, tn33, tn34, tn35, tn36, tn37, tn38, tn39, tn40, tn41, tn42, tn43, tn44, tn45, tn46, tn47, tn48, tn49, tn50, tn51, tn52, tn53, tn54, tn55, tn56, tn57, tn58, tn59, tn60, lH_eq, true_and, and_true, f.2.1 t (by omega), gt.1, twq_0 H, twq_1 H, twq_2 H, twq_3 H, twq_4 H, twq_5 H, twq_6 H, twq_7 H, twq_8 H, twq_9 H, twq_10 H, f.2.1 (t + 7) (by omega), qCl, f.2.1 _ (show hR h0 (t + 7) 0 < hN h0 by omega), moq_0 m0.2, show vp_in 19 20 from vp_in_nI (n := 19) (by decide) (by decide)]
    refine ⟨fun _ => ⟨⟨by decide, by decide⟩, by decide, g1.trans e1, g2.trans e2, k _ (frg_sI (frg_sR (f.mono (fun c _ y => Or.inr y)) (fun _ => Or.inr rfl)) (fun _ => Or.inl rfl)) g1 g2 (fun j => ?_) (fun j => ?_) (fun j hj => ?_) ?_⟩, fun z => absurd (by decide) z⟩
    · rw [hR_sI, hR_sR, if_neg (by omega)]; exact gt.1 j
    · rw [hI_sI, if_pos rfl, hI_sR, gt.2.1]
    · rw [hR_sI, hR_sR, if_pos rfl, if_neg (by omega)]; exact q1 j (by omega)
    · rw [hR_sI, hR_sR, if_pos rfl, if_pos rfl]
  | n + 1, i, h, hi, h1, f, g1, g2, q1, q2 => by
    have lt := H.lt w
    have gt := f.2.2.1 t (by omega) (by omega)
    have m0 := hb i (by omega)
    have l0 := m0.2.lt w
    refine wX9_forgetOldest_9 hd t _ (nI i) ?_
    have h5 : (20 ≤ nI i) = (20 ≤ i) := nI_le_iff (a := 20) (by decide) (by omega)
    have h6 : nI i - 1 = nI (i - 1) := pk_sub (b := 1) h1
    have hqi : hR h (t + 7) i = hR h0 (t + 7) i := q2 i (by omega)
    simp only [rt_i, rt_b0, rt_b1, rt_v, rt_l, rt_o, rt_a, rV_none, rI_some, rL_some, rR_some, rT_some, rt_bI, hIf_sL, hIf_sR, hS_sI, hS_sL, hS_sR, hS_cpI, hR_sI, hR_sL, hR_cpI, hL_sI, hL_sR, hL_cpI, hI_sL, hI_sR, hN_sI, hN_sL, hN_sR, hN_cpI, hU_sI, hU_sL, hU_sR, hU_cpI, tn0, tn1, tn2, tn3, tn4, tn5, tn6, tn7, tn8, tn9, tn10, tn11, tn12, tn13, tn14, tn15, tn16, tn17, tn18, tn19, tn20, tn21, tn22, tn23, tn24, tn25, tn26, tn27, tn28, tn29, tn30, tn31, tn32, tn33, tn34, tn35, tn36, tn37, tn38, tn39, tn40, tn41, tn42, tn43, tn44, tn45, tn46, tn47, tn48, tn49, tn50, tn51, tn52, tn53, tn54, tn55, tn56, tn57, tn58, tn59, tn60, lH_eq, true_and, and_true, h5, h6, f.2.1 t (by omega), gt.1, twq_0 H, twq_1 H, twq_2 H, twq_3 H, twq_4 H, twq_5 H, twq_6 H, twq_7 H, twq_8 H, twq_9 H, twq_10 H, f.2.1 (t + 7) (by omega), qCl, vp_in_nI (show i < 20 by omega) (show 20 < 2 ^ 31 by omega), nI_clamp (show i < 2 ^ 31 by omega), vp_in_nI (show i - 1 < 20 by omega) (show 20 < 2 ^ 31 by omega), nI_clamp (show i - 1 < 2 ^ 31 by omega), hqi, f.2.1 _ (show hR h0 (t + 7) i < hN h0 by omega), moq_0 m0.2, nI_1]
    refine ⟨fun z => absurd z (by omega), fun _ => ⟨by decide, by decide, ⟨by decide, by decide⟩, by decide, ?_⟩⟩
    refine fo_loop hd t h0 w H hb e1 e2 k n (i + 1) _ (by omega) (by omega) (frg_sR f (fun _ => rfl)) g1 g2 (fun j hj => ?_) (fun j hj => ?_)
    · rw [hR_sR, if_pos rfl]
      by_cases c : j = i - 1
      · rw [if_pos c, c, show i - 1 + 1 = i by omega]
      · rw [if_neg c]; exact q1 j (by omega)
    · rw [hR_sR, if_pos rfl, if_neg (by omega)]; exact q2 j (by omega)
theorem sp_forgetOldest {d : Nat} {h : AH} {Q : Option Value → AH → Prop} (hd : 5 ≤ d) (t : Nat) (w : wfA h) (H : TwnAt h t) (hb : ∀ i, i < 20 → hR h (t + 7) i ≠ 0 ∧ MomAt h (hR h (t + 7) i)) (k : ∀ h', FrG h h' (fun c => c = t ∨ c = t + 7) → hN h' = hN h → hU h' = hU h → (∀ j, hR h' t j = hR h t j) → (∀ j, hI h' t j = if j = 5 then 19 else hI h t j) → (∀ j, j < 19 → hR h' (t + 7) j = hR h (t + 7) (j + 1)) → hR h' (t + 7) 19 = hR h (t + 7) 0 → Q none h') : Calls d nX9_forgetOldest [.ref t] h (hN h) (hU h) Q := by
  obtain ⟨e, rfl⟩ : ∃ e, d = e + 1 := ⟨d - 1, by omega⟩
  refine wX9_forgetOldest (by omega) t ?_
  simp only [rt_i, rt_b0, rt_b1, rt_v, rt_l, rt_o, rt_a, rV_none, rI_some, rL_some, rR_some, rT_some, rt_bI, hIf_sL, hIf_sR, hS_sI, hS_sL, hS_sR, hS_cpI, hR_sI, hR_sL, hR_cpI, hL_sI, hL_sR, hL_cpI, hI_sL, hI_sR, hN_sI, hN_sL, hN_sR, hN_cpI, hU_sI, hU_sL, hU_sR, hU_cpI, tn0, tn1, tn2, tn3, tn4, tn5, tn6, tn7, tn8, tn9, tn10, tn11, tn12, tn13, tn14, tn15, tn16, tn17, tn18, tn19, tn20, tn21, tn22, tn23, tn24, tn25, tn26, tn27, tn28, tn29, tn30, tn31, tn32, tn33, tn34, tn35, tn36, tn37, tn38, tn39, tn40, tn41, tn42, tn43, tn44, tn45, tn46, tn47, tn48, tn49, tn50, tn51, tn52, tn53, tn54, tn55, tn56, tn57, tn58, tn59, tn60, lH_eq, true_and, and_true, twq_0 H, twq_1 H, twq_2 H, twq_3 H, twq_4 H, twq_5 H, twq_6 H, twq_7 H, twq_8 H, twq_9 H, twq_10 H, show vp_in 0 20 from vp_in_nI (n := 0) (by decide) (by decide)]
  exact ⟨by decide, by decide, fo_loop (by omega) t h w H hb rfl rfl k 19 1 h (by omega) (by omega) (FrG.refl _ _) rfl rfl (fun j hj => absurd hj (by omega)) (fun _ _ => rfl)⟩
