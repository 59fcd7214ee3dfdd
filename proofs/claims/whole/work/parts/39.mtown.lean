/-! a town, as a value: runners, wares, hill, rule in force, x, moment, what can be taken back (the oldest first), notes -/
abbrev PC : Type := Nat → Nat → Int32
abbrev TW : Type := Nat × Nat × PC × Int32 × Int32 × PC × List PC × List (Nat × Nat × Int32)
def PastIs (f : Nat → Int32) (k nr nw : Nat) (N : PC) : Prop := f (28 * k) = N 0 0 ∧ (∀ j, j < nr → f (28 * k + 11 + j) = N 1 j ∧ f (28 * k + 1 + j) = N 2 j ∧ f (28 * k + 6 + j) = N 3 j) ∧ (∀ j, j < nw → f (28 * k + 16 + j) = N 4 j ∧ f (28 * k + 22 + j) = N 5 j)
/-- the reference's rows tell a town -/
def MTw (P : PC) : TW → Prop
  | (nr, nw, A, fo, x, M, ps, ns) => (nr ≤ 5 ∧ nw ≤ 6 ∧ ps.length ≤ 20 ∧ ns.length ≤ 10) ∧ (P 1 0 = A 0 0 ∧ P 1 1 = nI nr ∧ P 1 2 = nI nw ∧ P 1 3 = M 0 0 ∧ P 1 4 = nI ns.length ∧ P 1 5 = x ∧ P 1 6 = fo) ∧ (∀ j, j < nr → P 4 j = M 1 j ∧ P 2 j = M 2 j ∧ P 3 j = M 3 j) ∧ (∀ j, j < nw → P 5 j = M 4 j ∧ P 6 j = M 5 j) ∧ (∀ j, j < nr → P 12 j = A 1 j ∧ P 13 j = A 2 j) ∧ (∀ j, j < nw → P 14 j = A 3 j ∧ P 7 j = A 4 j ∧ P 8 j = A 5 j) ∧ P 34 0 = nI ps.length ∧ (∀ k N, ps[k]? = some N → PastIs (P 33) k nr nw N) ∧ (∀ k q, ns[k]? = some q → P 9 k = nI q.1 ∧ P 10 k = nI q.2.1 ∧ P 11 k = q.2.2)
theorem getq_lt {α : Type} {l : List α} {k : Nat} {a : α} (h : l[k]? = some a) : k < l.length := by
  by_cases c : k < l.length
  · exact c
  · rw [List.getElem?_eq_none (by omega)] at h; cases h
theorem PastIs.cg {f g : Nat → Int32} {k nr nw : Nat} {N : PC} (H : PastIs f k nr nw N) (hr : nr ≤ 5) (hw : nw ≤ 6) (e : ∀ j, j < 28 → g (28 * k + j) = f (28 * k + j)) : PastIs g k nr nw N := by
  obtain ⟨h0, h1, h2⟩ := H
  refine ⟨by rw [← h0]; exact e 0 (by omega), fun j hj => ?_, fun j hj => ?_⟩
  · have := h1 j hj
    rw [← this.1, ← this.2.1, ← this.2.2, Nat.add_assoc, Nat.add_assoc, Nat.add_assoc]
    exact ⟨e _ (by omega), e _ (by omega), e _ (by omega)⟩
  · have := h2 j hj
    rw [← this.1, ← this.2, Nat.add_assoc, Nat.add_assoc]
    exact ⟨e _ (by omega), e _ (by omega)⟩
theorem MTw.cg {P P' : PC} {T : TW} (H : MTw P T) (e : ∀ r ∈ rowsL, ∀ j, j < lnR r → P' r j = P r j) : MTw P' T := by
  obtain ⟨nr, nw, A, fo, x, M, ps, ns⟩ := T
  obtain ⟨⟨b1, b2, b3, b4⟩, ⟨s0, s1, s2, s3, s4, s5, s6⟩, h1, h2, h3, h4, h5, h6, h7⟩ := H
  have e1 := e 1 (by decide)
  refine ⟨⟨b1, b2, b3, b4⟩, ⟨?_, ?_, ?_, ?_, ?_, ?_, ?_⟩, fun j hj => ?_, fun j hj => ?_, fun j hj => ?_, fun j hj => ?_, ?_, fun k N hk => ?_, fun k q hk => ?_⟩
  · rw [e1 0 (by decide)]; exact s0
  · rw [e1 1 (by decide)]; exact s1
  · rw [e1 2 (by decide)]; exact s2
  · rw [e1 3 (by decide)]; exact s3
  · rw [e1 4 (by decide)]; exact s4
  · rw [e1 5 (by decide)]; exact s5
  · rw [e1 6 (by decide)]; exact s6
  · rw [e 4 (by decide) j (by simp only [lnR]; omega), e 2 (by decide) j (by simp only [lnR]; omega), e 3 (by decide) j (by simp only [lnR]; omega)]; exact h1 j hj
  · rw [e 5 (by decide) j (by simp only [lnR]; omega), e 6 (by decide) j (by simp only [lnR]; omega)]; exact h2 j hj
  · rw [e 12 (by decide) j (by simp only [lnR]; omega), e 13 (by decide) j (by simp only [lnR]; omega)]; exact h3 j hj
  · rw [e 14 (by decide) j (by simp only [lnR]; omega), e 7 (by decide) j (by simp only [lnR]; omega), e 8 (by decide) j (by simp only [lnR]; omega)]; exact h4 j hj
  · rw [e 34 (by decide) 0 (by decide)]; exact h5
  · have := getq_lt hk
    exact (h6 k N hk).cg b1 b2 (fun j hj => e 33 (by decide) _ (by simp only [lnR]; omega))
  · have := getq_lt hk
    rw [e 9 (by decide) k (by simp only [lnR]; omega), e 10 (by decide) k (by simp only [lnR]; omega), e 11 (by decide) k (by simp only [lnR]; omega)]; exact h7 k q hk
/-- the cells of the reference's town hold a town -/
def MNo (h : AH) (m : Nat) (T : TW) : Prop := MTw (refP h m) T
theorem MNo.hil {h : AH} {m nr nw : Nat} {A : PC} {fo x : Int32} {M : PC} {ps : List PC} {ns : List (Nat × Nat × Int32)} (H : MNo h m (nr, nw, A, fo, x, M, ps, ns)) : MHil h m nr nw A ∧ eqM nr nw (rM h m) M := by
  obtain ⟨⟨b1, b2, b3, b4⟩, ⟨s0, s1, s2, s3, s4, s5, s6⟩, h1, h2, h3, h4, h5, h6, h7⟩ := H
  exact ⟨⟨s1, s2, ⟨s0, fun j hj => (h4 j hj).2⟩, h3, fun j hj => (h4 j hj).1⟩, ⟨s3, h1, h2⟩⟩
/-- what is kept for taking back -/
def psR (M : PC) (ps : List PC) : List PC := (if ps.length = 20 then ps.tail else ps) ++ [M]
theorem psR_len (M : PC) (ps : List PC) (h : ps.length ≤ 20) : (psR M ps).length ≤ 20 ∧ (psR M ps).length = (if ps.length = 20 then 20 else ps.length + 1) := by
  unfold psR
  split
  · rename_i e
    simp [e]
  · simp; omega
theorem ka_loop {d E1 E2 : Nat} {Q : Option Value → AH → Prop} (hd : 4 ≤ d) (m : Nat) (h0 : AH) (H : ModAt h0 m) (k : ∀ h', Fr' h0 h' (fun b => b = m + 33) → (∀ j, j < 532 → hI h' (m + 33) j = hI h0 (m + 33) (j + 28)) → Reach d nX12_keepsAct (12, [.ref m, .int (nI 560)], []) h' E1 E2 Q) : ∀ (n i : Nat) (h : AH), i + n = 560 → 28 ≤ i → Fr' h0 h (fun b => b = m + 33) → (∀ j, j < i - 28 → hI h (m + 33) j = hI h0 (m + 33) (j + 28)) → (∀ j, i - 28 ≤ j → hI h (m + 33) j = hI h0 (m + 33) j) → Reach d nX12_keepsAct (12, [.ref m, .int (nI i)], []) h E1 E2 Q
  | 0, i, h, hi, h28, f, q1, q2 => by
    have : i = 560 := by omega
    subst this
    exact k h f q1
  | n + 1, i, h, hi, h28, f, q1, q2 => by
    refine wX12_keepsAct_12 hd m (nI i) ?_
    have h5 : ((560 : Int32) ≤ nI i) = (560 ≤ i) := nI_le_iff (a := 560) (by decide) (by omega)
    have h6 : nI i - 28 = nI (i - 28) := pk_sub (b := 28) h28
    simp only [rt_i, rt_b0, rt_b1, rt_v, rt_l, rt_o, rt_a, rV_none, rI_some, rL_some, rR_some, rT_some, rt_bI, hIf_sL, hIf_sR, hS_sI, hS_sL, hS_sR, hS_cpI, hR_sI, hR_sL, hR_cpI, hL_sI, hL_sR, hL_cpI, hI_sL, hI_sR, hN_sI, hN_sL, hN_sR, hN_cpI, hU_sI, hU_sL, hU_sR, hU_cpI, tn0, tn1, tn2, tn3, tn4, tn5, tn6, tn7, tn8, tn9, tn10, tn11, tn12, tn13, tn14, tn15, tn16, tn17, tn18, tn19, tn20, tn21, tn22, tn23, tn24, tn25, tn26, tn27, tn28, tn29, tn30, tn31, tn32, tn33, tn34, tn35, tn36, tn37, tn38, tn39, tn40, tn41, tn42, tn43, tn44, tn45, tn46, tn47, tn48, tn49, tn50, tn51, tn52, tn53, tn54, tn55, tn56, tn57, tn58, tn59, tn60, lH_eq, true_and, and_true, f.1, f.2.1, mdq_0 H, mdq_43 H, mds_43 H, h5, h6, vp_in_nI (show i < 560 by omega) (show 560 < 2 ^ 31 by omega), nI_clamp (show i < 2 ^ 31 by omega), vp_in_nI (show i - 28 < 560 by omega) (show 560 < 2 ^ 31 by omega), nI_clamp (show i - 28 < 2 ^ 31 by omega), nI_1]
    refine ⟨fun z => absurd z (by omega), fun _ => ?_⟩
    refine ka_loop hd m h0 H k n (i + 1) _ (by omega) (by omega) (f.trans (Fr'.sI rfl)) (fun j hj => ?_) (fun j hj => ?_)
    · rw [hI_sI, if_pos rfl]
      by_cases e : j = i - 28
      · subst e
        rw [if_pos rfl, q2 i (by omega), show i - 28 + 28 = i by omega]
      · rw [if_neg e, q1 j (by omega)]
    · rw [hI_sI, if_pos rfl, if_neg (by omega), q2 j (by omega)]
theorem MSv.past {h0 h : AH} {m k nr nw : Nat} (c : MSv h0 h m (28 * k) 28) (hr : nr ≤ 5) (hw : nw ≤ 6) {M : PC} (e : eqM nr nw (rM h0 m) M) : PastIs (hI h (m + 33)) k nr nw M := by
  obtain ⟨f, c1, c2, c3, c6, c4, c5⟩ := c
  obtain ⟨e0, e1, e2⟩ := e
  refine ⟨(c6 (by decide)).trans e0, fun j hj => ?_, fun j hj => ?_⟩
  · have := e1 j hj
    rw [← this.1, ← this.2.1, ← this.2.2]
    exact ⟨c4 4 (by decide) j (by simp only [lnR]; omega) (by decide), c4 2 (by decide) j (by simp only [lnR]; omega) (by decide), c4 3 (by decide) j (by simp only [lnR]; omega) (by decide)⟩
  · have := e2 j hj
    rw [← this.1, ← this.2]
    exact ⟨c4 5 (by decide) j (by simp only [lnR]; omega) (by decide), c4 6 (by decide) j (by simp only [lnR]; omega) (by decide)⟩
theorem psR_get (M : PC) (ps : List PC) (k : Nat) (N : PC) (hl : ps.length ≤ 20) (h : (psR M ps)[k]? = some N) : (k = (if ps.length = 20 then 19 else ps.length) ∧ N = M) ∨ (k < (if ps.length = 20 then 19 else ps.length) ∧ ps[k + (if ps.length = 20 then 1 else 0)]? = some N) := by
  unfold psR at h
  by_cases c : ps.length = 20
  · rw [if_pos c] at h ⊢
    rw [if_pos c]
    by_cases c2 : k < 19
    · rw [List.getElem?_append_left (by simp; omega)] at h
      right
      refine ⟨c2, ?_⟩
      cases ps with
      | nil => simp at c
      | cons a r => simpa using h
    · rw [List.getElem?_append_right (by simp; omega)] at h
      left
      have := getq_lt h
      simp [c] at this
      have e : k = 19 := by omega
      subst e
      simp [c] at h
      exact ⟨rfl, h.symm⟩
  · rw [if_neg c] at h ⊢
    rw [if_neg c]
    by_cases c2 : k < ps.length
    · rw [List.getElem?_append_left c2] at h
      exact Or.inr ⟨c2, h⟩
    · rw [List.getElem?_append_right (by omega)] at h
      left
      have := getq_lt h
      simp at this
      have e : k = ps.length := by omega
      subst e
      simp at h
      exact ⟨rfl, h.symm⟩
theorem m_keepsAct {d : Nat} {h : AH} {Q : Option Value → AH → Prop} (hd : 8 ≤ d) (m nr nw : Nat) (A : PC) (fo x : Int32) (M : PC) (ps : List PC) (ns : List (Nat × Nat × Int32)) (H : ModAt h m) (HT : MNo h m (nr, nw, A, fo, x, M, ps, ns)) (k : ∀ h', Fr' h h' (fun b => b = m ∨ b = m + 33) → (∀ j, j ≠ 45 → j ≠ 46 → j ≠ 47 → hI h' m j = hI h m j) → MNo h' m (nr, nw, A, fo, x, M, psR M ps, ns) → Q none h') : Calls d nX12_keepsAct [.ref m] h (hN h) (hU h) Q := by
  obtain ⟨e, rfl⟩ : ∃ e, d = e + 1 := ⟨d - 1, by omega⟩
  have HE := HT.hil.2
  obtain ⟨⟨b1, b2, b3, b4⟩, hs, h1, hh2, h3, h4, h5, h6, h7⟩ := HT
  have h45 : hI h m 45 = nI ps.length := h5
  have pl := psR_len M ps b3
  -- the end, from a heap h2 in which the acts are saved
  have fin : ∀ (h1' h2 : AH) (a : Nat), Fr' h h1' (fun b => b = m ∨ b = m + 33) → (∀ j, j ≠ 45 → hI h1' m j = hI h m j) → MSv h1' h2 m (28 * a) 28 → hI h2 m 45 = nI a → a = (if ps.length = 20 then 19 else ps.length) → (∀ k N, ps[k + (if ps.length = 20 then 1 else 0)]? = some N → k < a → PastIs (hI h1' (m + 33)) k nr nw N) → Fr' h (sI h2 m 45 (hI h2 m 45 + 1)) (fun b => b = m ∨ b = m + 33) ∧ (∀ j, j ≠ 45 → j ≠ 46 → j ≠ 47 → hI (sI h2 m 45 (hI h2 m 45 + 1)) m j = hI h m j) ∧ MNo (sI h2 m 45 (hI h2 m 45 + 1)) m (nr, nw, A, fo, x, M, psR M ps, ns) := fun h1' h2 a f1 g1 c e45 ea hp => by
    have f2 : Fr' h (sI h2 m 45 (hI h2 m 45 + 1)) (fun b => b = m ∨ b = m + 33) := (f1.trans c.1).trans (Fr'.sI (Or.inl rfl))
    have er : ∀ r, 1 ≤ r → r ≠ 33 → ∀ j, hI (sI h2 m 45 (hI h2 m 45 + 1)) (m + r) j = hI h (m + r) j := fun r h1 h2 j => f2.2.2.2.2.1 (m + r) (by omega) j
    have eP : ∀ r, 1 ≤ r → r ≠ 33 → r ≠ 34 → ∀ j, refP (sI h2 m 45 (hI h2 m 45 + 1)) m r j = refP h m r j := fun r h1 h2 h3 j => by
      simp only [refP, if_neg h3]; exact er r h1 h2 j
    refine ⟨f2, fun j j1 j2 j3 => ?_, ⟨b1, b2, pl.1, b4⟩, ?_, fun j hj => ?_, fun j hj => ?_, fun j hj => ?_, fun j hj => ?_, ?_, fun k N hk => ?_, fun k q hk => ?_⟩
    · rw [hI_sI, if_pos rfl, if_neg j1, c.2.2.2.1 j j2 j3, g1 j j1]
    · simp only [eP 1 (by decide) (by decide) (by decide)]; exact hs
    · simp only [eP 4 (by decide) (by decide) (by decide), eP 2 (by decide) (by decide) (by decide), eP 3 (by decide) (by decide) (by decide)]; exact h1 j hj
    · simp only [eP 5 (by decide) (by decide) (by decide), eP 6 (by decide) (by decide) (by decide)]; exact hh2 j hj
    · simp only [eP 12 (by decide) (by decide) (by decide), eP 13 (by decide) (by decide) (by decide)]; exact h3 j hj
    · simp only [eP 14 (by decide) (by decide) (by decide), eP 7 (by decide) (by decide) (by decide), eP 8 (by decide) (by decide) (by decide)]; exact h4 j hj
    · show hI (sI h2 m 45 (hI h2 m 45 + 1)) m 45 = nI (psR M ps).length
      rw [hI_sI, if_pos rfl, if_pos rfl, e45, nI_1, pl.2, ea]
      split <;> rfl
    · show PastIs (hI (sI h2 m 45 (hI h2 m 45 + 1)) (m + 33)) k nr nw N
      have e33 : hI (sI h2 m 45 (hI h2 m 45 + 1)) (m + 33) = hI h2 (m + 33) := funext (fun j => by rw [hI_sI, if_neg (by omega)])
      rw [e33]
      rcases psR_get M ps k N b3 hk with ⟨e1, e2⟩ | ⟨e1, e2⟩
      · rw [← ea] at e1
        subst e1 e2
        have eM : rM h1' m = rM h m := by
          unfold rM
          rw [show hI h1' (m + 1) = hI h (m + 1) from funext (f1.2.2.2.2.1 _ (by omega)), show hI h1' (m + 2) = hI h (m + 2) from funext (f1.2.2.2.2.1 _ (by omega)), show hI h1' (m + 3) = hI h (m + 3) from funext (f1.2.2.2.2.1 _ (by omega)), show hI h1' (m + 4) = hI h (m + 4) from funext (f1.2.2.2.2.1 _ (by omega)), show hI h1' (m + 5) = hI h (m + 5) from funext (f1.2.2.2.2.1 _ (by omega)), show hI h1' (m + 6) = hI h (m + 6) from funext (f1.2.2.2.2.1 _ (by omega))]
        exact c.past b1 b2 (by rw [eM]; exact HE)
      · rw [← ea] at e1
        refine (hp k N e2 e1).cg b1 b2 (fun j hj => ?_)
        exact c.2.2.2.2.2.2 _ (by omega)
    · simp only [eP 9 (by decide) (by decide) (by decide), eP 10 (by decide) (by decide) (by decide), eP 11 (by decide) (by decide) (by decide)]; exact h7 k q hk
  refine wX12_keepsAct (by omega) m ?_
  have hc : (nI ps.length = 20) = (ps.length = 20) := nI_eq_iff (b := 20) (by omega) (by decide)
  simp only [rt_i, rt_b0, rt_b1, rt_v, rt_l, rt_o, rt_a, rV_none, rI_some, rL_some, rR_some, rT_some, rt_bI, hIf_sL, hIf_sR, hS_sI, hS_sL, hS_sR, hS_cpI, hR_sI, hR_sL, hR_cpI, hL_sI, hL_sR, hL_cpI, hI_sL, hI_sR, hN_sI, hN_sL, hN_sR, hN_cpI, hU_sI, hU_sL, hU_sR, hU_cpI, tn0, tn1, tn2, tn3, tn4, tn5, tn6, tn7, tn8, tn9, tn10, tn11, tn12, tn13, tn14, tn15, tn16, tn17, tn18, tn19, tn20, tn21, tn22, tn23, tn24, tn25, tn26, tn27, tn28, tn29, tn30, tn31, tn32, tn33, tn34, tn35, tn36, tn37, tn38, tn39, tn40, tn41, tn42, tn43, tn44, tn45, tn46, tn47, tn48, tn49, tn50, tn51, tn52, tn53, tn54, tn55, tn56, tn57, tn58, tn59, tn60, lH_eq, true_and, and_true, mdq_0 H, h45, hc]
  refine ⟨fun z => ?_, fun z => ?_⟩
  · refine m_movesAllS (by omega) m ps.length (by omega) H (fun h2 c => ?_)
    simp only [rt_i, rt_b0, rt_b1, rt_v, rt_l, rt_o, rt_a, rV_none, rI_some, rL_some, rR_some, rT_some, rt_bI, hIf_sL, hIf_sR, hS_sI, hS_sL, hS_sR, hS_cpI, hR_sI, hR_sL, hR_cpI, hL_sI, hL_sR, hL_cpI, hI_sL, hI_sR, hN_sI, hN_sL, hN_sR, hN_cpI, hU_sI, hU_sL, hU_sR, hU_cpI, tn0, tn1, tn2, tn3, tn4, tn5, tn6, tn7, tn8, tn9, tn10, tn11, tn12, tn13, tn14, tn15, tn16, tn17, tn18, tn19, tn20, tn21, tn22, tn23, tn24, tn25, tn26, tn27, tn28, tn29, tn30, tn31, tn32, tn33, tn34, tn35, tn36, tn37, tn38, tn39, tn40, tn41, tn42, tn43, tn44, tn45, tn46, tn47, tn48, tn49, tn50, tn51, tn52, tn53, tn54, tn55, tn56, tn57, tn58, tn59, tn60, lH_eq, true_and, and_true, c.1.1, mdq_0 H]
    obtain ⟨r1, r2, r3⟩ := fin h h2 ps.length (Fr'.refl _ _) (fun _ _ => rfl) c (by rw [c.2.2.2.1 45 (by decide) (by decide)]; exact h45) (by rw [if_neg z]) (fun k N hk _ => h6 k N (by rw [if_neg z] at hk; exact hk))
    exact ⟨r1.2.2.1, r1.2.2.2.1, k _ r1 r2 r3⟩
  · refine ka_loop (by omega) m h H (fun h1' f1 q1 => ?_) 532 28 h (by omega) (by omega) (Fr'.refl _ _) (fun j hj => by omega) (fun _ _ => rfl)
    refine wX12_keepsAct_12 (by omega) m (nI 560) ?_
    have g1 : ∀ j, hI h1' m j = hI h m j := f1.2.2.2.2.1 m (by omega)
    simp only [rt_i, rt_b0, rt_b1, rt_v, rt_l, rt_o, rt_a, rV_none, rI_some, rL_some, rR_some, rT_some, rt_bI, hIf_sL, hIf_sR, hS_sI, hS_sL, hS_sR, hS_cpI, hR_sI, hR_sL, hR_cpI, hL_sI, hL_sR, hL_cpI, hI_sL, hI_sR, hN_sI, hN_sL, hN_sR, hN_cpI, hU_sI, hU_sL, hU_sR, hU_cpI, tn0, tn1, tn2, tn3, tn4, tn5, tn6, tn7, tn8, tn9, tn10, tn11, tn12, tn13, tn14, tn15, tn16, tn17, tn18, tn19, tn20, tn21, tn22, tn23, tn24, tn25, tn26, tn27, tn28, tn29, tn30, tn31, tn32, tn33, tn34, tn35, tn36, tn37, tn38, tn39, tn40, tn41, tn42, tn43, tn44, tn45, tn46, tn47, tn48, tn49, tn50, tn51, tn52, tn53, tn54, tn55, tn56, tn57, tn58, tn59, tn60, lH_eq, true_and, and_true, f1.1, mdq_0 H, g1, h45, z, hI_sI, if_true, show nI 20 - 1 = nI 19 from nI_sub1 19]
    refine ⟨fun _ => ?_, fun z => absurd (by decide) z⟩
    have f1b : Fr' h (sI h1' m 45 (nI 19)) (fun b => b = m ∨ b = m + 33) := (f1.mono (fun b z => Or.inr z)).trans (Fr'.sI (Or.inl rfl))
    refine m_movesAllS (by omega) m 19 (by omega) (H.fr f1b) (fun h2 c => ?_)
    simp only [rt_i, rt_b0, rt_b1, rt_v, rt_l, rt_o, rt_a, rV_none, rI_some, rL_some, rR_some, rT_some, rt_bI, hIf_sL, hIf_sR, hS_sI, hS_sL, hS_sR, hS_cpI, hR_sI, hR_sL, hR_cpI, hL_sI, hL_sR, hL_cpI, hI_sL, hI_sR, hN_sI, hN_sL, hN_sR, hN_cpI, hU_sI, hU_sL, hU_sR, hU_cpI, tn0, tn1, tn2, tn3, tn4, tn5, tn6, tn7, tn8, tn9, tn10, tn11, tn12, tn13, tn14, tn15, tn16, tn17, tn18, tn19, tn20, tn21, tn22, tn23, tn24, tn25, tn26, tn27, tn28, tn29, tn30, tn31, tn32, tn33, tn34, tn35, tn36, tn37, tn38, tn39, tn40, tn41, tn42, tn43, tn44, tn45, tn46, tn47, tn48, tn49, tn50, tn51, tn52, tn53, tn54, tn55, tn56, tn57, tn58, tn59, tn60, lH_eq, true_and, and_true, c.1.1, f1.1, mdq_0 H]
    obtain ⟨r1, r2, r3⟩ := fin (sI h1' m 45 (nI 19)) h2 19 f1b (fun j hj => by rw [hI_sI, if_pos rfl, if_neg hj, g1]) c (by rw [c.2.2.2.1 45 (by decide) (by decide), hI_sI, if_pos rfl, if_pos rfl]) (by rw [if_pos z]) (fun k N hk hka => by
      rw [if_pos z] at hk
      have e33 : hI (sI h1' m 45 (nI 19)) (m + 33) = hI h1' (m + 33) := funext (fun j => by rw [hI_sI, if_neg (by omega)])
      rw [e33]
      obtain ⟨p0, p1, p2⟩ := h6 (k + 1) N hk
      have p0 : hI h (m + 33) (28 * (k + 1)) = N 0 0 := p0
      refine ⟨?_, fun j hj => ?_, fun j hj => ?_⟩
      · rw [q1 _ (by omega), ← p0]
        congr 1
      · have := p1 j hj
        rw [q1 _ (by omega), q1 _ (by omega), q1 _ (by omega), ← this.1, ← this.2.1, ← this.2.2]
        refine ⟨?_, ?_, ?_⟩ <;> (show hI h (m + 33) _ = hI h (m + 33) _; congr 1; omega)
      · have := p2 j hj
        rw [q1 _ (by omega), q1 _ (by omega), ← this.1, ← this.2]
        refine ⟨?_, ?_⟩ <;> (show hI h (m + 33) _ = hI h (m + 33) _; congr 1; omega))
    exact ⟨r1.2.2.1, r1.2.2.2.1, k _ r1 r2 r3⟩
