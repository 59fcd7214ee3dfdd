/-! signs, and what may be released at once -/
theorem sgn_eq {t : Nat → Int32} {n q : Nat} {c : Int32} (hb : ∀ i, i < n → byB (t i)) (h0 : 0 ≤ c) (h1 : c < 128) (hg : ¬ isDg c = true) (hl : ¬ isLt c = true) (n60 : c ≠ 60) (n62 : c ≠ 62) : (sgF t n q = c ↔ (tkK t n q = 3 ∧ tkV t n q = c)) ∧ (sgF t n q = c → tkE t n q = q + 1 ∧ q < n) := by
  have key : sgF t n q = c → (tkK t n q = 3 ∧ tkV t n q = c) ∧ tkE t n q = q + 1 ∧ q < n := fun h => by
    rw [sg_eq hb h0 h1] at h
    obtain ⟨h2, h3⟩ := h
    have e255 : t q &&& 255 = c := by rw [by_eq255 (hb q h2) h0 h1]; exact h3
    have nq2 : ¬ isQ2 t n q := fun z => by
      rcases z.1 with e | e
      · exact n60 (e255.symm.trans e)
      · exact n62 (e255.symm.trans e)
    rw [← h3] at hg hl
    refine ⟨⟨by unfold tkK; rw [if_neg (by omega), if_neg hg, if_neg hl], ?_⟩, ?_, h2⟩
    · unfold tkV; rw [if_neg hg, if_neg hl, if_neg nq2]; exact e255
    · unfold tkE; rw [if_neg (by omega), if_neg hg, if_neg hl, if_neg nq2]
  refine ⟨⟨fun h => (key h).1, fun h => ?_⟩, fun h => (key h).2⟩
  obtain ⟨k3, kv⟩ := h
  have hqn := tkK_lt (t := t) (n := n) (q := q) (by omega)
  have hg' : ¬ isDg (t q) = true := fun z => by unfold tkK at k3; rw [if_neg (by omega), if_pos z] at k3; cases k3
  have hl' : ¬ isLt (t q) = true := fun z => by unfold tkK at k3; rw [if_neg (by omega), if_neg hg', if_pos z] at k3; cases k3
  unfold tkV at kv
  rw [if_neg hg', if_neg hl'] at kv
  by_cases z : isQ2 t n q
  · rw [if_pos z] at kv
    rcases z.1 with e | e
    · rw [e] at kv
      rw [← kv] at h1
      exact absurd h1 (by decide)
    · rw [e] at kv
      rw [← kv] at h1
      exact absurd h1 (by decide)
  · rw [if_neg z] at kv
    unfold sgF
    rw [if_pos hqn]
    exact kv
theorem sgO_6 {v : Int32} (h : tgO (sgO v) = 6) : v = 42 ∨ v = 47 ∨ v = 37 := by
  by_cases c1 : v = 42
  · exact Or.inl c1
  by_cases c2 : v = 47
  · exact Or.inr (Or.inl c2)
  by_cases c3 : v = 37
  · exact Or.inr (Or.inr c3)
  exfalso
  unfold sgO at h
  split at h
  · exact absurd h (by decide)
  split at h
  · exact absurd h (by decide)
  revert h
  repeat' split
  all_goals decide
theorem sgO_5 {v : Int32} (h : tgO (sgO v) = 5) : v = 43 ∨ v = 45 := by
  by_cases c1 : v = 43
  · exact Or.inl c1
  by_cases c2 : v = 45
  · exact Or.inr c2
  exfalso
  unfold sgO at h
  rw [if_neg c1, if_neg c2] at h
  revert h
  repeat' split
  all_goals decide
theorem tkO_3 {t : Nat → Int32} {n q : Nat} {c : Int32} (h : tkK t n q = 3 ∧ tkV t n q = c) : tkO t n q = sgO c := by
  unfold tkO
  rw [if_pos h.1, h.2]
theorem tk_n6 {t : Nat → Int32} {n q : Nat} (hb : ∀ i, i < n → byB (t i)) (h1 : ¬ sgF t n q = 42) (h2 : ¬ sgF t n q = 47) (h3 : ¬ sgF t n q = 37) : tgO (tkO t n q) < 6 := by
  have hbd := tg_bnd (tkO t n q)
  by_cases c : tgO (tkO t n q) = 6
  · exfalso
    have k3 := tkO_5 (t := t) (n := n) (q := q) (by omega)
    have eo : tkO t n q = sgO (tkV t n q) := tkO_3 ⟨k3, rfl⟩
    rw [eo] at c
    rcases sgO_6 c with e | e | e
    · exact h1 ((sgn_eq hb (by decide) (by decide) (by decide) (by decide) (by decide) (by decide)).1.mpr ⟨k3, e⟩)
    · exact h2 ((sgn_eq hb (by decide) (by decide) (by decide) (by decide) (by decide) (by decide)).1.mpr ⟨k3, e⟩)
    · exact h3 ((sgn_eq hb (by decide) (by decide) (by decide) (by decide) (by decide) (by decide)).1.mpr ⟨k3, e⟩)
  · omega
theorem tk_n5 {t : Nat → Int32} {n q : Nat} (hb : ∀ i, i < n → byB (t i)) (h6 : tgO (tkO t n q) < 6) (h1 : ¬ sgF t n q = 43) (h2 : ¬ sgF t n q = 45) : tgO (tkO t n q) < 5 := by
  by_cases c : tgO (tkO t n q) = 5
  · exfalso
    have k3 := tkO_5 (t := t) (n := n) (q := q) (by omega)
    have eo : tkO t n q = sgO (tkV t n q) := tkO_3 ⟨k3, rfl⟩
    rw [eo] at c
    rcases sgO_5 c with e | e
    · exact h1 ((sgn_eq hb (by decide) (by decide) (by decide) (by decide) (by decide) (by decide)).1.mpr ⟨k3, e⟩)
    · exact h2 ((sgn_eq hb (by decide) (by decide) (by decide) (by decide) (by decide) (by decide)).1.mpr ⟨k3, e⟩)
  · omega
theorem inv_p {p p' st pa : Nat} {pile : List Nat} {cl : List (List (Nat × Nat) × List (Nat × Nat))} {su s : List (Nat × Nat)} (I : mInv (p, st, pile, pa, cl, su, s)) (h : p ≤ p') : mInv (p', st, pile, pa, cl, su, s) := by
  obtain ⟨a, b, c, ⟨N, d, e⟩, r⟩ := I
  exact ⟨a, b, by omega, ⟨N, by omega, e⟩, r⟩
theorem rn_sk {t : Nat → Int32} {n p st pa : Nat} {pile : List Nat} {cl : List (List (Nat × Nat) × List (Nat × Nat))} {su s : List (Nat × Nat)} (hp : p ≤ n) : rnM t n (sk t n p, st, pile, pa, cl, su, s) = rnM t n (p, st, pile, pa, cl, su, s) := by
  have e : sk t n (sk t n p) = sk t n p := ru_ru hp
  refine rnM_cg (show sk t n p ≤ n from ru_le hp) hp ?_
  unfold mstep
  simp only [e]
theorem MM.sk {h h' : AH} {m n r p st pa : Nat} {pile : List Nat} {cl : List (List (Nat × Nat) × List (Nat × Nat))} {su s : List (Nat × Nat)} {t : Nat → Int32} (H : MM h m n r t (p, st, pile, pa, cl, su, s)) (f : Fr' h h' (fun c => c = m)) (g : ∀ j, j ≠ 22 → hI h' m j = hI h m j) {p' : Nat} (e : hI h' m 22 = nI p') (hp : p ≤ p') (hp' : p' ≤ n) : MM h' m n r t (p', st, pile, pa, cl, su, s) := by
  obtain ⟨H1, ⟨-, -⟩, e23, ⟨e24, hr⟩, E, e28, I⟩ := H
  exact ⟨H1.fr f (g 21 (by decide)) (by omega), ⟨e, hp'⟩, (g 23 (by decide)).trans e23, ⟨(g 24 (by decide)).trans e24, hr⟩, E.cg (g 26 (by decide)) (f.2.2.2.2.1 (m + 22) (by omega)) (f.2.2.2.2.1 (m + 23) (by omega)), (g 28 (by decide)).trans e28, inv_p I hp⟩
theorem inv_fl {p st pa k : Nat} {pile : List Nat} {cl : List (List (Nat × Nat) × List (Nat × Nat))} {su s : List (Nat × Nat)} (I : mInv (p, st, k :: pile, pa, cl, su, s)) (hst : st = 2 ∨ st = 4 ∨ st = 6) (hk : 5 ≤ tgO k) : mInv (p, st, pile, pa, cl, su, s ++ [(k, 0)]) := by
  obtain ⟨⟨A, G, B, e, hA, hB, hd, hG, hB0, hA0⟩, ⟨i1, i2, i3, i4⟩, i5, ⟨N, i6, i7⟩, ⟨j1, j2, j3, j4⟩, j5, j6, j7⟩ := I
  have hgb := hd_gb hG hB
  obtain ⟨A', eA, hA'⟩ : ∃ A', A = k :: A' ∧ aOk A' := by
    cases A with
    | nil =>
      exfalso
      have e : k :: pile = G ++ B := e
      rw [← e] at hgb
      have : tgO k ≤ 4 := hgb
      omega
    | cons a A' =>
      have ek : k = a := by simp at e; exact e.1
      refine ⟨A', by rw [ek], ?_⟩
      rcases hA with h | ⟨x, h, h'⟩ | ⟨x, h, h'⟩ | ⟨x, y, h, h2, h'⟩
      · cases h
      · cases h'; exact Or.inl rfl
      · cases h'; exact Or.inl rfl
      · cases h'; exact Or.inr (Or.inl ⟨y, h2, rfl⟩)
  subst eA
  have eP : pile = A' ++ G ++ B := by simpa using e
  have ne := tk_ne hk
  have y := j3 (by omega)
  have yk := ty_ar (r := pile) hk
  have ys : tyS st (k :: pile) = false :: false :: tyL pile := by
    unfold tyS
    rw [if_pos hst, yk.1]
  have bq : brc (k :: pile) = brc pile := by rw [brc_c, if_neg ne.2.1, Nat.zero_add]
  have ln : (flK cl ++ su ++ (s ++ [(k, 0)])).length = (flK cl ++ su ++ s).length + 1 := by simp; omega
  simp only [List.length_cons] at i5 i7
  rw [bq] at i7
  refine ⟨⟨A', G, B, eP, hA', hB, hd, hG, hB0, fun z => by omega⟩, ⟨i1, i2, i3, i4⟩, by rw [ln]; omega, ⟨N, i6, by rw [ln]; omega⟩, ⟨fun z => by omega, j2, fun _ => ?_, j4⟩, ?_, ?_, j7⟩
  · rw [tys_app y, ys]
    unfold tyS
    rw [if_pos hst]
    simp only [tys, yk.2]
  · rw [vals_app]
    have : vals [(k, 0)] = 0 := by
      have h2 : ¬ k ≤ 1 := by
        intro z
        have : k = 0 ∨ k = 1 := by omega
        rcases this with rfl | rfl <;> exact absurd hk (by decide)
      simp [vals, h2]
    omega
  · intro q hq
    rw [← List.append_assoc, List.mem_append] at hq
    rcases hq with hq | hq
    · exact j6 q hq
    · simp at hq
      subst hq
      have : tgO k = 5 ∨ tgO k = 6 := by have := tg_bnd k; omega
      rcases this with z | z
      · rcases tg_5 z with rfl | rfl <;> exact Or.inr (Or.inr (Or.inr rfl))
      · rcases tg_6 z with rfl | rfl | rfl <;> exact Or.inr (Or.inr (Or.inr rfl))
theorem rn_fl {t : Nat → Int32} {n p st pa k : Nat} {pile : List Nat} {cl : List (List (Nat × Nat) × List (Nat × Nat))} {su s : List (Nat × Nat)} (hp : p ≤ n) (hst : st = 2 ∨ st = 4 ∨ st = 6) (hk : 5 ≤ tgO k) (ht : tgO (tkO t n (sk t n p)) - 1 < tgO k) : rnM t n (p, st, k :: pile, pa, cl, su, s) = rnM t n (p, st, pile, pa, cl, su, s ++ [(k, 0)]) := by
  refine rnM_cg hp hp ?_
  have ne := tk_ne hk
  have e1 : ∀ pl s', mstep t n (p, st, pl, pa, cl, su, s') = mgo t n (sk t n p) st pl pa cl su s' := fun pl s' => by
    unfold mstep
    simp only
    rw [if_neg (by omega), if_neg (by omega), if_neg (by omega)]
  rw [e1, e1]
  exact mgo_fl ne.2.1 (fun _ _ => ht) (fun _ => by omega) (fun _ => ht) (by omega)
theorem mval_sh {t : Nat → Int32} {n q beh pa : Nat} {pile : List Nat} {cl : List (List (Nat × Nat) × List (Nat × Nat))} {su s : List (Nat × Nat)} {σ : MS} (h : mval t n q beh pile pa cl su s = .inr σ) : ∃ v, σ = (tkE t n q, beh, pile, pa + 1, cl, su, s ++ [v]) := by
  unfold mval at h
  split at h
  · cases h
  · split at h
    · cases h
    · split at h
      · cases h
      · cases h
        exact ⟨_, rfl⟩
