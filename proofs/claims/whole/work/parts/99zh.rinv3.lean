theorem mem_rel {th : Nat} {pile : List Nat} {su s : List (Nat × Nat)} (hv : ∀ k ∈ pile, 2 ≤ k ∧ k < 16) (h : ∀ q ∈ su ++ s, opOk q) : ∀ q ∈ su ++ (s ++ emL th pile), opOk q := fun q hq => by
  rw [← List.append_assoc, List.mem_append] at hq
  rcases hq with hq | hq
  · exact h q hq
  · exact em_ok hv q hq
theorem vals_rel {th : Nat} {pile : List Nat} {s : List (Nat × Nat)} (hv : ∀ k ∈ pile, 2 ≤ k ∧ k < 16) : vals (s ++ emL th pile) = vals s := by
  rw [vals_app, vals_em (fun k hk => (hv k hk).1), Nat.add_zero]
theorem len_rel {th : Nat} {pile : List Nat} {x s : List (Nat × Nat)} : (x ++ (s ++ emL th pile)).length + (rstL th pile).length = (x ++ s).length + pile.length := by
  have := ems_len (th := th) pile
  simp only [List.length_append]
  omega
theorem tyS_op {op : Nat} {r : List Nat} (h : op = 10 ∨ op = 11) : tyL (op :: r) = true :: tyL r := by rcases h with rfl | rfl <;> rfl
theorem brc_ap {X Y : List Nat} (h : ∀ k ∈ X, k ≠ 12) : brc (X ++ Y) = brc Y := by
  induction X with
  | nil => rfl
  | cons k r ih =>
    rw [List.cons_append, brc_c, if_neg (h k (by simp)), Nat.zero_add]
    exact ih (fun j hj => h j (by simp [hj]))
/-- a clause is at its end -/
theorem fin_cl {p st pa : Nat} {pile : List Nat} {cl : List (List (Nat × Nat) × List (Nat × Nat))} {su s : List (Nat × Nat)} (H : mInv (p, st, pile, pa, cl, su, s)) (hs : ((st = 6 ∨ st = 8) ∧ brc pile = 0) ∨ st = 2) : (clR (if st = 2 then (s ++ emL 0 pile, []) else (su, s ++ emL 0 pile)) ∧ ∀ q ∈ (if st = 2 then (s ++ emL 0 pile, []) else (su, s ++ emL 0 pile) : List (Nat × Nat) × List (Nat × Nat)).1 ++ (if st = 2 then (s ++ emL 0 pile, []) else (su, s ++ emL 0 pile) : List (Nat × Nat) × List (Nat × Nat)).2, opOk q) ∧ rstL 0 pile = [] ∧ (flK (cl ++ [if st = 2 then (s ++ emL 0 pile, []) else (su, s ++ emL 0 pile)])).length = (flK cl ++ su ++ s).length + pile.length := by
  have hv := H.1.all.2
  obtain ⟨hP, ⟨i1, i2, i3, i4⟩, i5, -, ⟨j1, j2, j3, j4⟩, j5, j6, j7⟩ := H
  have lr := len_rel (th := 0) (pile := pile) (x := flK cl ++ su) (s := s)
  rcases hs with ⟨h1, h2⟩ | h1
  · have n2 : ¬ st = 2 := by omega
    have y := j3 (by omega)
    obtain ⟨B, hB, hd, eb, er, ey⟩ := relB h1 (th := 0) (by omega) hP y
    have r0 : rstL 0 B = [] := by
      rcases rst_0 hB with h | ⟨l', -, h, -⟩
      · exact h.1
      · omega
    rw [r0] at ey er
    have ey : tys (s ++ emL 0 pile) [] = some [true] := ey
    simp only [if_neg n2]
    refine ⟨⟨⟨j4 (by omega), show vals su ≤ 60 from by omega, Or.inr ⟨ey, show vals (s ++ emL 0 pile) ≤ 60 from by rw [vals_rel hv]; omega⟩⟩, mem_rel hv j6⟩, er, ?_⟩
    rw [flK_app]
    rw [er] at lr
    simp only [List.length_append, List.length_nil] at lr ⊢
    omega
  · subst h1
    have y : tys s [] = some (false :: tyL pile) := j3 (by omega)
    have hsu := j2 (by omega)
    subst hsu
    obtain ⟨A, G, B, e, hA, hB, hd, hG, hB0, hA0⟩ := hP
    have b0 := hB0 (by omega)
    have g0 := hG.2 (by omega)
    subst b0 g0
    simp only [List.append_nil] at e
    subst e
    have ga := hA.tg
    have x1 := rst_ap (th := 0) (Y := []) (X := pile) (fun k hk => by have := (ga.2 k hk).1; omega)
    rw [List.append_nil] at x1
    have r0 : rstL 0 pile = [] := x1.1
    have em : emL 0 pile = pile.map (fun k => (k, 0)) := by rw [x1.2]; simp [emL, popL]
    have yA := ty_A (Y := []) (A := pile) (fun k hk => (ga.2 k hk).1)
    rw [List.append_nil] at yA
    have ey : tys (s ++ emL 0 pile) [] = some [false] := by rw [tys_app y, em]; exact yA
    simp only [if_true]
    refine ⟨⟨⟨ey, by rw [vals_rel hv]; omega, Or.inl rfl⟩, ?_⟩, r0, ?_⟩
    · rw [List.append_nil]
      intro q hq
      exact mem_rel (su := []) hv j6 q hq
    · rw [flK_app]
      rw [r0] at lr
      simp only [List.length_append, List.length_nil] at lr ⊢
      omega
theorem mgo_inv {t : Nat → Int32} {n p st pa : Nat} {pile : List Nat} {cl : List (List (Nat × Nat) × List (Nat × Nat))} {su s : List (Nat × Nat)} {σ' : MS} (H : mInv (p, st, pile, pa, cl, su, s)) (hst : st = 2 ∨ st = 4 ∨ st = 6 ∨ st = 8) (h : mgo t n (sk t n p) st pile pa cl su s = .inr σ') (hp : p ≤ n) : mInv σ' := by
  have hin := mgo_in h
  have hq := tkK_lt hin.2
  have hE := tkE_gt (t := t) hq
  have hs : p ≤ sk t n p := ru_ge
  have H0 := H
  have hv := H.1.all.2
  unfold mgo at h
  generalize sk t n p = q at *
  obtain ⟨hP, ⟨i1, i2, i3, i4⟩, i5, ⟨N, i6, i7⟩, ⟨j1, j2, j3, j4⟩, j5, j6, j7⟩ := H
  have st0 : st ≠ 0 := by omega
  have y := j3 st0
  have c11 := i4 st0
  rw [if_neg (by omega)] at i7
  split at h
  · rename_i c
    cases h
    have lr := len_rel (th := tgO (tkO t n q) - 1) (pile := pile) (x := flK cl ++ su) (s := s)
    have tgb := tg_bnd (tkO t n q)
    obtain ⟨A, G, B, e, hA, hB, hd, hG, hB0, hA0⟩ := hP
    have ta : tgO (tkO t n q) = 5 ∨ tgO (tkO t n q) = 6 := by omega
    have hgb := hd_gb hG hB
    obtain ⟨A1, A2, eA, er, ee, ha⟩ := relA (op := tkO t n q) hA hgb ta
    have e2 : pile = A ++ (G ++ B) := by rw [e, List.append_assoc]
    rw [← e2] at er ee
    have y : tys s [] = some (false :: tyL (A ++ (G ++ B))) := by
      rw [← e2]
      unfold tyS at y
      rwa [if_pos (by omega)] at y
    have ga := hA.tg
    have yy : tys (s ++ emL (tgO (tkO t n q) - 1) pile) [] = some (false :: tyL (A2 ++ (G ++ B))) := by
      rw [ee, tys_app y, eA, List.append_assoc]
      exact ty_A (fun k hk => (ga.2 k (by rw [eA]; simp [hk])).1)
    have bq : brc (tkO t n q :: rstL (tgO (tkO t n q) - 1) pile) = brc pile := by
      rw [brc_c, brc_rst, if_neg, Nat.zero_add]
      intro z
      rw [z] at ta
      exact absurd ta (by decide)
    refine ⟨⟨tkO t n q :: A2, G, B, by rw [er]; simp, ha, hB, hd, hG.mv (by omega), fun z => hB0 (by omega), fun z => by omega⟩, ⟨by omega, i2, i3, fun _ => c11⟩, ?_, ⟨N, by omega, ?_⟩, ⟨fun z => by omega, fun z => j2 (by omega), fun _ => ?_, fun z => j4 (by omega)⟩, by rw [vals_rel hv]; exact j5, mem_rel hv j6, j7⟩
    · simp only [List.length_cons]; omega
    · rw [bq, if_pos (by omega)]
      simp only [List.length_cons]; omega
    · rw [yy, er]
      unfold tyS
      rw [if_neg (by omega), if_neg (by omega), (ty_ar (r := A2 ++ (G ++ B)) (show 5 ≤ tgO (tkO t n q) by omega)).1]
  split at h
  · rename_i c1 c
    split at h
    · cases h
    rename_i c60
    cases h
    have lr := len_rel (th := 3) (pile := pile) (x := flK cl ++ su) (s := s)
    obtain ⟨A, G, B, e, hA, hB, hd, hG, hB0, hA0⟩ := hP
    have g0 := hG.2 (by omega)
    subst g0
    rw [List.append_nil] at e
    have ga := hA.tg
    have x1 := rst_ap (th := 3) (Y := B) (X := A) (fun k hk => by have := (ga.2 k hk).1; omega)
    have x2 := rst_hd (th := 3) hB.hd
    rw [← e, x2.1, x2.2, List.append_nil] at x1
    have y : tys s [] = some (false :: tyL (A ++ B)) := by
      rw [← e]
      unfold tyS at y
      rwa [if_pos (by omega)] at y
    have yy : tys (s ++ emL 3 pile) [] = some (false :: tyL B) := by
      rw [x1.2, tys_app y]
      exact ty_A (fun k hk => (ga.2 k hk).1)
    have bq : brc (tkO t n q :: rstL 3 pile) = brc pile := by
      rw [brc_c, brc_rst, if_neg, Nat.zero_add]
      intro z
      rw [z] at c
      exact absurd c.1 (by decide)
    refine ⟨⟨[], [tkO t n q], B, by rw [x1.1]; rfl, Or.inl rfl, hB, hd, ⟨fun _ => ⟨_, c.1, rfl⟩, fun z => absurd (Or.inl rfl) z⟩, fun z => by omega, fun _ => rfl⟩, ⟨by omega, by omega, i3, fun _ => c11⟩, ?_, ⟨N, by omega, ?_⟩, ⟨fun z => by omega, fun z => by omega, fun _ => ?_, fun z => j4 (by omega)⟩, by rw [vals_rel hv]; omega, mem_rel hv j6, j7⟩
    · simp only [List.length_cons]; omega
    · rw [bq, if_pos (by omega)]
      simp only [List.length_cons]; omega
    · rw [yy, x1.1]
      unfold tyS
      rw [if_neg (by omega), if_neg (by omega), (ty_sg (r := B) c.1).1]
  split at h
  · rename_i c1 c2 c
    cases h
    have lr := len_rel (th := tgO (tkO t n q) - 1) (pile := pile) (x := flK cl ++ su) (s := s)
    have th3 : tgO (tkO t n q) - 1 ≤ 3 := by rcases c.1 with z | z <;> rw [z] <;> decide
    obtain ⟨B, hB, hd, eb, er, ey⟩ := relB c.2 th3 hP y
    have hb := hB.rst (th := tgO (tkO t n q) - 1)
    have bq : brc (tkO t n q :: rstL (tgO (tkO t n q) - 1) pile) = brc pile := by
      rw [brc_c, brc_rst, if_neg, Nat.zero_add]
      omega
    have dq := dpt_rst (th := tgO (tkO t n q) - 1) (l := B)
    refine ⟨⟨[], [], tkO t n q :: rstL (tgO (tkO t n q) - 1) B, by rw [er]; rfl, Or.inl rfl, ⟨?_, hb.1⟩, ?_, ⟨fun z => by omega, fun _ => rfl⟩, fun z => by omega, fun _ => rfl⟩, ⟨by omega, i2, i3, fun _ => c11⟩, ?_, ⟨N, by omega, ?_⟩, ⟨fun z => by omega, fun z => by omega, fun _ => ?_, fun z => j4 (by omega)⟩, by rw [vals_rel hv]; exact j5, mem_rel hv j6, j7⟩
    · rcases c.1 with z | z
      · rw [z] at hb ⊢
        exact Or.inr (Or.inr (Or.inl ⟨rfl, hb.2⟩))
      · rw [z] at hb ⊢
        exact Or.inr (Or.inr (Or.inr ⟨rfl, Nat.le_zero.mp hb.2⟩))
    · rw [dpt_c, if_neg (by omega)]; omega
    · simp only [List.length_cons]; omega
    · rw [bq, if_pos (by omega)]
      simp only [List.length_cons]; omega
    · rw [ey, er]
      unfold tyS
      rw [if_neg (by omega), if_neg (by omega), tyS_op c.1]
  split at h
  · rename_i c1 c2 c3 c
    cases h
    have f := fin_cl H0 (Or.inr c.2)
    rw [if_pos c.2] at f
    obtain ⟨⟨f1, f2⟩, f3, f4⟩ := f
    have hsu := j2 (by omega)
    subst hsu
    have lr := len_rel (th := 0) (pile := pile) (x := flK cl ++ []) (s := s)
    rw [f3] at lr ⊢
    have hbp : 0 ≤ brc pile := Nat.zero_le _
    have b0 : brc pile = 0 := by rw [← brc_rst (th := 0), f3]; rfl
    refine ⟨⟨[], [], [], rfl, Or.inl rfl, trivial, by decide, ⟨fun z => by omega, fun _ => rfl⟩, fun _ => rfl, fun _ => rfl⟩, ⟨by omega, i2, i3, fun _ => c11⟩, ?_, ⟨N, by omega, ?_⟩, ⟨fun _ => rfl, fun z => by omega, fun _ => ?_, fun z => f1.1⟩, ?_, ?_, j7⟩
    · simp only [List.length_append, List.length_nil] at lr ⊢
      simp only [List.length_append, List.length_nil] at i5
      omega
    · rw [if_pos (by omega)]
      simp only [List.length_append, List.length_nil] at lr i7 ⊢
      simp only [brc] at *
      omega
    · rfl
    · rw [vals_rel hv]
      simp only [vals] at *
      omega
    · rw [List.append_nil]
      intro u hu
      exact f2 u (by simp [hu])
  split at h
  · rename_i c1 c2 c3 c4 c
    cases h
    have lr := len_rel (th := 0) (pile := pile) (x := flK cl ++ su) (s := s)
    obtain ⟨B, hB, hd, eb, er, ey⟩ := relB c.2.1 (th := 0) (by omega) hP y
    rcases rst_0 hB with ⟨z1, z2⟩ | ⟨l', z1, z2, z3, z4⟩
    · omega
    rw [z1] at er ey
    rw [er] at lr ⊢
    simp only [List.tail_cons, List.length_cons] at lr ⊢
    refine ⟨⟨[], [], l', rfl, Or.inl rfl, z3, by omega, ⟨fun z => by omega, fun _ => rfl⟩, fun z => by omega, fun _ => rfl⟩, ⟨by omega, i2, i3, fun _ => c11⟩, by omega, ⟨N, by omega, ?_⟩, ⟨fun z => by omega, fun z => by omega, fun _ => ?_, fun z => j4 (by omega)⟩, by rw [vals_rel hv]; exact j5, mem_rel hv j6, j7⟩
    · rw [if_neg (by omega)]
      omega
    · rw [ey]
      rfl
  split at h
  · rename_i c1 c2 c3 c4 c5 c
    split at h
    · cases h
    cases h
    have f := fin_cl H0 c.2
    obtain ⟨f1, f3, f4⟩ := f
    have b0 : brc pile = 0 := by rw [← brc_rst (th := 0), f3]; rfl
    refine ⟨⟨[], [], [], rfl, Or.inl rfl, trivial, by decide, ⟨fun z => by omega, fun _ => rfl⟩, fun _ => rfl, fun _ => rfl⟩, ⟨by omega, i2, by simp; omega, fun z => absurd rfl z⟩, ?_, ⟨N, by omega, ?_⟩, ⟨fun _ => rfl, fun _ => rfl, fun z => absurd rfl z, fun z => by omega⟩, by simp [vals], by simp, ?_⟩
    · simp only [List.append_nil, List.length_nil]
      omega
    · rw [if_neg (show ¬ ((0 : Nat) = 1 ∨ (0 : Nat) = 3 ∨ (0 : Nat) = 5 ∨ (0 : Nat) = 7) by omega)]
      simp only [List.append_nil, List.length_nil, brc]
      omega
    · intro x hx
      rw [List.mem_append] at hx
      rcases hx with hx | hx
      · exact j7 x hx
      · rw [List.mem_singleton] at hx
        rw [hx]
        exact f1
  · cases h
