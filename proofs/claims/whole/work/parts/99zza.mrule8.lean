/-! signs that compare -/
theorem cmp_1 {t : Nat → Int32} {n q : Nat} (hb : ∀ i, i < n → byB (t i)) (h : sgF t n q = 61) : tkO t n q = 6 ∧ tkE t n q = q + 1 ∧ q < n := by
  obtain ⟨s1, s2⟩ := sgn_eq (t := t) (n := n) (q := q) (c := 61) hb (by decide) (by decide) (by decide) (by decide) (by decide) (by decide)
  exact ⟨tkO_3 (s1.mp h), s2 h⟩
theorem cmp_2 {t : Nat → Int32} {n q : Nat} {c : Int32} (hb : ∀ i, i < n → byB (t i)) (hc : c = 60 ∨ c = 62) (h : sgF t n q = c) : q < n ∧ (sgF t n (q + 1) = 61 → tkK t n q = 3 ∧ tkV t n q = c + 256 ∧ tkE t n q = q + 2 ∧ q + 1 < n) ∧ (¬ sgF t n (q + 1) = 61 → tkK t n q = 3 ∧ tkV t n q = c ∧ tkE t n q = q + 1) := by
  have h0 : 0 ≤ c := by rcases hc with e | e <;> rw [e] <;> decide
  have h1 : c < 128 := by rcases hc with e | e <;> rw [e] <;> decide
  have hg : ¬ isDg c = true := by rcases hc with e | e <;> rw [e] <;> decide
  have hl : ¬ isLt c = true := by rcases hc with e | e <;> rw [e] <;> decide
  have h' := h
  rw [sg_eq hb h0 h1] at h'
  obtain ⟨hq, et⟩ := h'
  have e255 : t q &&& 255 = c := by rw [by_eq255 (hb q hq) h0 h1]; exact et
  rw [← et] at hg hl
  have k3 : tkK t n q = 3 := by unfold tkK; rw [if_neg (by omega), if_neg hg, if_neg hl]
  refine ⟨hq, fun z => ?_, fun z => ?_⟩
  · rw [sg_eq hb (by decide) (by decide)] at z
    have q2 : isQ2 t n q := ⟨by rw [e255]; exact hc, z⟩
    exact ⟨k3, by unfold tkV; rw [if_neg hg, if_neg hl, if_pos q2, e255], by unfold tkE; rw [if_neg (by omega), if_neg hg, if_neg hl, if_pos q2], z.1⟩
  · rw [sg_eq hb (by decide) (by decide)] at z
    have q2 : ¬ isQ2 t n q := fun y => z y.2
    exact ⟨k3, by unfold tkV; rw [if_neg hg, if_neg hl, if_neg q2, e255], by unfold tkE; rw [if_neg (by omega), if_neg hg, if_neg hl, if_neg q2]⟩
theorem sgO_4 {v : Int32} (h : tgO (sgO v) = 4) : v = 60 ∨ v = 316 ∨ v = 61 ∨ v = 318 ∨ v = 62 := by
  unfold sgO at h
  split at h
  · exact absurd h (by decide)
  split at h
  · exact absurd h (by decide)
  split at h
  · exact absurd h (by decide)
  split at h
  · exact absurd h (by decide)
  split at h
  · exact absurd h (by decide)
  split at h
  · rename_i c; exact Or.inl c
  split at h
  · rename_i c; exact Or.inr (Or.inl c)
  split at h
  · rename_i c; exact Or.inr (Or.inr (Or.inl c))
  split at h
  · rename_i c; exact Or.inr (Or.inr (Or.inr (Or.inl c)))
  split at h
  · rename_i c; exact Or.inr (Or.inr (Or.inr (Or.inr c)))
  exact absurd h (by decide)
theorem cmp_n {t : Nat → Int32} {n q : Nat} (hb : ∀ i, i < n → byB (t i)) (h1 : ¬ sgF t n q = 60) (h2 : ¬ sgF t n q = 61) (h3 : ¬ sgF t n q = 62) : ¬ tgO (tkO t n q) = 4 := fun h => by
  have k3 := tkO_5 (t := t) (n := n) (q := q) (by omega)
  have hqn := tkK_lt (t := t) (n := n) (q := q) (by omega)
  have hg' : ¬ isDg (t q) = true := fun z => by unfold tkK at k3; rw [if_neg (by omega), if_pos z] at k3; cases k3
  have hl' : ¬ isLt (t q) = true := fun z => by unfold tkK at k3; rw [if_neg (by omega), if_neg hg', if_pos z] at k3; cases k3
  have es : sgF t n q = t q &&& 255 := by unfold sgF; rw [if_pos hqn]
  rw [es] at h1 h2 h3
  rw [tkO_3 ⟨k3, rfl⟩] at h
  have hv := sgO_4 h
  unfold tkV at hv
  rw [if_neg hg', if_neg hl'] at hv
  by_cases z : isQ2 t n q
  · rcases z.1 with e | e
    · exact h1 e
    · exact h3 e
  · rw [if_neg z] at hv
    have bd : ∀ c : Int32, byB c → c &&& 255 < 256 := fun c hc => by
      obtain ⟨i, hi, rfl⟩ := hc
      have key : ∀ i, i < 256 → (nI i - 128) &&& 255 < 256 := by decide +kernel
      exact key i hi
    have bq := bd _ (hb q hqn)
    rcases hv with e | e | e | e | e
    · exact h1 e
    · rw [e] at bq; exact absurd bq (by decide)
    · exact h2 e
    · rw [e] at bq; exact absurd bq (by decide)
    · exact h3 e
/-- the sign that waits is released: as after a fact -/
theorem inv_fl8 {p pa k : Nat} {pile : List Nat} {cl : List (List (Nat × Nat) × List (Nat × Nat))} {su s : List (Nat × Nat)} (I : mInv (p, 6, k :: pile, pa, cl, su, s)) (hk : tgO k = 4) : mInv (p, 8, pile, pa, cl, su, s ++ [(k, 0)]) := by
  obtain ⟨⟨A, G, B, e, hA, hB, hd, hG, hB0, hA0⟩, ⟨i1, i2, i3, i4⟩, i5, ⟨N, i6, i7⟩, ⟨j1, j2, j3, j4⟩, j5, j6, j7⟩ := I
  obtain ⟨g, hg4, eG⟩ := hG.1 (Or.inr rfl)
  have eA : A = [] := by
    cases A with
    | nil => rfl
    | cons a A' =>
      have ek : k = a := by simp at e; exact e.1
      have := (hA.tg.2 a (by simp)).1
      rw [ek] at hk
      omega
  subst eA eG
  have eP : pile = B := by simp at e; exact e.2
  subst eP
  have k12 : k ≠ 12 := fun z => by rw [z] at hk; exact absurd hk (by decide)
  have y := j3 (by decide)
  have yk := ty_sg (r := pile) hk
  have ys : tyS 6 (k :: pile) = false :: false :: tyL pile := by
    unfold tyS
    rw [if_pos (by decide), yk.1]
  have bq : brc (k :: pile) = brc pile := by rw [brc_c, if_neg k12, Nat.zero_add]
  have ln : (flK cl ++ su ++ (s ++ [(k, 0)])).length = (flK cl ++ su ++ s).length + 1 := by simp; omega
  simp only [List.length_cons] at i5 i7
  rw [bq, if_neg (by decide)] at i7
  refine ⟨⟨[], [], pile, rfl, Or.inl rfl, hB, hd, ⟨fun z => by omega, fun _ => rfl⟩, fun z => by omega, fun _ => rfl⟩, ⟨by omega, i2, i3, fun _ => i4 (by decide)⟩, by rw [ln]; omega, ⟨N, i6, by rw [ln, if_neg (by decide)]; omega⟩, ⟨fun z => by omega, fun z => by omega, fun _ => ?_, fun _ => j4 (by decide)⟩, ?_, ?_, j7⟩
  · rw [tys_app y, ys]
    simp only [tys, yk.2]
    rfl
  · rw [vals_app]
    have : vals [(k, 0)] = 0 := by
      have h2 : ¬ k ≤ 1 := by
        have := tg_4 hk
        omega
      simp [vals, h2]
    omega
  · intro q hq
    rw [← List.append_assoc, List.mem_append] at hq
    rcases hq with hq | hq
    · exact j6 q hq
    · simp at hq
      subst hq
      have := tg_4 hk
      have : k = 4 ∨ k = 5 ∨ k = 6 ∨ k = 7 ∨ k = 8 := by omega
      rcases this with rfl | rfl | rfl | rfl | rfl <;> exact Or.inr (Or.inr (Or.inr rfl))
theorem rn_fl8 {t : Nat → Int32} {n p pa k : Nat} {pile : List Nat} {cl : List (List (Nat × Nat) × List (Nat × Nat))} {su s : List (Nat × Nat)} (hp : p ≤ n) (hk : tgO k = 4) (ht : tgO (tkO t n (sk t n p)) < 5) : rnM t n (p, 6, k :: pile, pa, cl, su, s) = rnM t n (p, 8, pile, pa, cl, su, s ++ [(k, 0)]) := by
  refine rnM_cg hp hp ?_
  have k12 : k ≠ 12 := fun z => by rw [z] at hk; exact absurd hk (by decide)
  have e1 : mstep t n (p, 6, k :: pile, pa, cl, su, s) = mgo t n (sk t n p) 6 (k :: pile) pa cl su s := rfl
  have e2 : mstep t n (p, 8, pile, pa, cl, su, s ++ [(k, 0)]) = mgo t n (sk t n p) 8 pile pa cl su (s ++ [(k, 0)]) := rfl
  rw [e1, e2, mgo_fl k12 (fun _ z => by omega) (fun z => by omega) (fun z => by omega) (by omega)]
  unfold mgo
  rw [if_neg (fun z => by omega), if_neg (fun z => by omega), if_neg (show ¬ (5 ≤ tgO (tkO t n (sk t n p)) ∧ 8 ≠ 8) from fun z => by omega), if_neg (show ¬ (tgO (tkO t n (sk t n p)) = 4 ∧ 8 = 4) from fun z => by omega)]
  simp
