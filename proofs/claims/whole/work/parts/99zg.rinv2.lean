theorem em_ok {th : Nat} : ∀ {l : List Nat}, (∀ k ∈ l, 2 ≤ k ∧ k < 16) → ∀ q ∈ emL th l, opOk q
  | [], _, q, hq => by simp [emL, popL] at hq
  | k :: r, h, q, hq => by
    by_cases c : th < tgO k
    · rw [emL_c c] at hq
      simp only [List.mem_cons] at hq
      rcases hq with rfl | hq
      · have hk := h k (by simp)
        have h12 : k ≠ 12 := fun z => by rw [z] at c; exact absurd c (Nat.not_lt_zero th)
        have key : ∀ k, k < 16 → 2 ≤ k → k ≠ 12 → (k = 9 ∨ isOp k = true) := by decide
        exact Or.inr (Or.inr (key k hk.2 hk.1 h12))
      · exact em_ok (fun j hj => h j (by simp [hj])) q hq
    · rw [(rst_st c).2] at hq
      simp at hq
theorem relA {A Y : List Nat} {op : Nat} (hA : aOk A) (hY : hdT Y ≤ 4) (h : tgO op = 5 ∨ tgO op = 6) : ∃ A1 A2, A = A1 ++ A2 ∧ rstL (tgO op - 1) (A ++ Y) = A2 ++ Y ∧ emL (tgO op - 1) (A ++ Y) = A1.map (fun k => (k, 0)) ∧ aOk (op :: A2) := by
  have g := hA.tg
  rcases h with h | h
  · rw [h]
    have r := rst_ap (th := 4) (Y := Y) (X := A) (fun k hk => by have := (g.2 k hk).1; omega)
    have e := rst_hd (th := 4) hY
    refine ⟨A, [], by simp, by rw [r.1, e.1]; rfl, by rw [r.2, e.2]; simp, Or.inr (Or.inl ⟨op, h, rfl⟩)⟩
  · rw [h]
    rcases hA with rfl | ⟨a, ha, rfl⟩ | ⟨b, hb, rfl⟩ | ⟨b, a, hb, ha, rfl⟩
    · have e := rst_hd (th := 5) (l := Y) (by omega)
      exact ⟨[], [], rfl, e.1, e.2, Or.inr (Or.inr (Or.inl ⟨op, h, rfl⟩))⟩
    · have e := rst_st (th := 5) (k := a) (l := Y) (by omega)
      exact ⟨[], [a], rfl, e.1, e.2, Or.inr (Or.inr (Or.inr ⟨op, a, h, ha, rfl⟩))⟩
    · have e := rst_hd (th := 5) (l := Y) (by omega)
      refine ⟨[b], [], rfl, ?_, ?_, Or.inr (Or.inr (Or.inl ⟨op, h, rfl⟩))⟩
      · show rstL 5 (b :: Y) = Y
        rw [rstL_c (by omega), e.1]
      · show emL 5 (b :: Y) = [(b, 0)]
        rw [emL_c (by omega), e.2]
    · have e := rst_st (th := 5) (k := a) (l := Y) (by omega)
      refine ⟨[b], [a], rfl, ?_, ?_, Or.inr (Or.inr (Or.inr ⟨op, a, h, ha, rfl⟩))⟩
      · show rstL 5 (b :: a :: Y) = a :: Y
        rw [rstL_c (by omega), e.1]
      · show emL 5 (b :: a :: Y) = [(b, 0)]
        rw [emL_c (by omega), e.2]
def tyS (st : Nat) (pile : List Nat) : List Bool := if st = 2 ∨ st = 4 ∨ st = 6 then false :: tyL pile else if st = 8 then true :: tyL pile else tyL pile
theorem hd_gb {st : Nat} {G B : List Nat} (hG : gOk st G) (hB : bOk B) : hdT (G ++ B) ≤ 4 := by
  by_cases c : st = 5 ∨ st = 6
  · obtain ⟨g, h1, rfl⟩ := hG.1 c
    show tgO g ≤ 4
    omega
  · rw [hG.2 c]
    have := hB.hd
    show hdT B ≤ 4
    omega
theorem relB {st th : Nat} {pile : List Nat} {s : List (Nat × Nat)} (hs : st = 6 ∨ st = 8) (ht : th ≤ 3) (hp : pOk st pile) (hy : tys s [] = some (tyS st pile)) : ∃ B, bOk B ∧ dpt B ≤ 10 ∧ brc pile = brc B ∧ rstL th pile = rstL th B ∧ tys (s ++ emL th pile) [] = some (true :: tyL (rstL th B)) := by
  obtain ⟨A, G, B, rfl, hA, hB, hd, hG, -, h0⟩ := hp
  refine ⟨B, hB, hd, ?_⟩
  rcases hs with rfl | rfl
  · obtain ⟨g, hg, rfl⟩ := hG.1 (Or.inr rfl)
    have ga := hA.tg
    have x1 := rst_ap (th := th) (Y := [g] ++ B) (X := A) (fun k hk => by have := (ga.2 k hk).1; omega)
    have x2 := rst_ap (th := th) (Y := B) (X := [g]) (fun k hk => by simp at hk; subst hk; omega)
    have bA : ∀ {X Y : List Nat}, (∀ k ∈ X, k ≠ 12) → brc (X ++ Y) = brc Y := by
      intro X Y
      induction X with
      | nil => intro _; rfl
      | cons k r ih =>
        intro h
        rw [List.cons_append, brc_c, if_neg (h k (by simp)), Nat.zero_add]
        exact ih (fun j hj => h j (by simp [hj]))
    have hy : tys s [] = some (false :: tyL (A ++ ([g] ++ B))) := by rw [← List.append_assoc]; exact hy
    rw [List.append_assoc]
    refine ⟨?_, by rw [x1.1, x2.1], ?_⟩
    · rw [bA (fun k hk => ?_), bA (fun k hk => ?_)]
      · simp at hk; subst hk
        have := tg_4 hg
        omega
      · have := (ga.2 k hk).1
        intro z
        rw [z] at this
        exact absurd this (by decide)
    · rw [x1.2, x2.2, tys_app hy, tys_app (ty_A (fun k hk => (ga.2 k hk).1))]
      have e := ty_sg (r := B) hg
      have e1 : tyL ([g] ++ B) = false :: tyL B := e.1
      rw [e1]
      simp only [List.map_cons, List.map_nil, List.cons_append, List.nil_append, tys, e.2]
      exact ty_B hB
  · have hA0 : A = [] := h0 (Or.inr (Or.inr rfl))
    have hG0 : G = [] := hG.2 (by decide)
    subst hA0 hG0
    refine ⟨rfl, rfl, ?_⟩
    have hy : tys s [] = some (true :: tyL B) := hy
    rw [tys_app hy]
    exact ty_B hB
/-- what holds at each step -/
def mInv : MS → Prop
  | (p, st, pile, pa, cl, su, s) => pOk st pile ∧ (st ≤ 8 ∧ pa ≤ 60 ∧ cl.length ≤ 12 ∧ (st ≠ 0 → cl.length ≤ 11)) ∧ ((flK cl ++ su ++ s).length + pile.length ≤ p) ∧ (∃ N, 3 * N ≤ p ∧ (flK cl ++ su ++ s).length + pile.length ≤ 2 * pa + N + brc pile + (if st = 1 ∨ st = 3 ∨ st = 5 ∨ st = 7 then 1 else 0)) ∧ ((st = 0 → s = []) ∧ (st ≤ 2 → su = []) ∧ (st ≠ 0 → tys s [] = some (tyS st pile)) ∧ (3 ≤ st → tys su [] = some [false])) ∧ (vals su + vals s ≤ pa) ∧ (∀ q ∈ su ++ s, opOk q) ∧ (∀ c ∈ cl, clR c ∧ ∀ q ∈ c.1 ++ c.2, opOk q)
/-- what a rule that was read comes to -/
def ruOk (cls : List (List (Nat × Nat) × List (Nat × Nat))) : Prop := 1 ≤ cls.length ∧ cls.length ≤ 12 ∧ (flK cls).length ≤ 260 ∧ ∀ c ∈ cls, clR c ∧ ∀ q ∈ c.1 ++ c.2, opOk q
theorem inv_0 : mInv (0, 0, [], 0, [], [], []) := ⟨⟨[], [], [], rfl, Or.inl rfl, trivial, by decide, ⟨fun h => by omega, fun _ => rfl⟩, fun _ => rfl, fun _ => rfl⟩, ⟨by omega, by omega, by simp, fun h => absurd rfl h⟩, by simp [flK], ⟨0, by omega, by simp [flK]⟩, ⟨fun _ => rfl, fun _ => rfl, fun h => absurd rfl h, fun h => by omega⟩, by simp [vals], by simp, by simp⟩
theorem val_nat {t : Nat → Int32} {n q : Nat} (h1 : tkK t n q = 1) (h0 : ¬ tkV t n q < 0) : ∃ v, v < 100000 ∧ tkV t n q = nI v := by
  have hk : q < n ∧ isDg (t q) = true := by rw [← tkK_1]; exact h1
  have eE : tkE t n q = ru isDg t n q := by unfold tkE; rw [if_neg (by omega), if_pos hk.2]
  have eV : tkV t n q = nuF t q (tkE t n q - q) := by unfold tkV; rw [if_pos hk.2]
  have hgt := tkE_gt (t := t) hk.1
  by_cases c : tkE t n q - q ≤ 5
  · obtain ⟨m, hm, e⟩ := nu_val (t := t) (q := q) (tkE t n q - q) c (fun i hi => ru_in (P := isDg) (n := n) (p := q) (by omega) (by omega))
    refine ⟨m, Nat.lt_of_lt_of_le hm (Nat.pow_le_pow_right (n := 10) (by decide) c), by rw [eV, e]⟩
  · exfalso
    apply h0
    have e1 : tkE t n q - q = (tkE t n q - q - 1) + 1 := by omega
    have : nuF t q (tkE t n q - q - 1 + 1) = -1 := if_neg (by omega)
    rw [eV, e1, this]
    decide
theorem mval_inv {t : Nat → Int32} {n p st pa beh : Nat} {pile : List Nat} {cl : List (List (Nat × Nat) × List (Nat × Nat))} {su s : List (Nat × Nat)} {σ' : MS} (H : mInv (p, st, pile, pa, cl, su, s)) (hb : (st = 1 ∧ beh = 2) ∨ (st = 3 ∧ beh = 4) ∨ (st = 5 ∧ beh = 6) ∨ (st = 7 ∧ beh = 4)) (h : mval t n (sk t n p) beh pile pa cl su s = .inr σ') (hp : p ≤ n) : mInv σ' := by
  have hin := mval_in h
  have hq := tkK_lt hin.2
  have hE := tkE_gt (t := t) hq
  have hs : p ≤ sk t n p := ru_ge
  unfold mval at h
  generalize sk t n p = q at *
  split at h
  · cases h
  rename_i c1
  split at h
  · cases h
  rename_i c2
  split at h
  · cases h
  rename_i c3
  cases h
  obtain ⟨⟨A, G, B, e, hA, hB, hd, hG, hB0, hA0⟩, ⟨i1, i2, i3, i4⟩, i5, ⟨N, i6, i7⟩, ⟨j1, j2, j3, j4⟩, j5, j6, j7⟩ := H
  have st0 : st ≠ 0 := by omega
  have j3 := j3 st0
  have hst : tyS st pile = tyL pile := by
    unfold tyS
    rw [if_neg (by omega), if_neg (by omega)]
  rw [hst] at j3
  have hbe : tyS beh pile = false :: tyL pile := by
    unfold tyS
    rw [if_pos (by omega)]
  have ln : (flK cl ++ su ++ (s ++ [(if tkK t n q = 1 then 0 else 1, (tkV t n q).toNatClampNeg)])).length = (flK cl ++ su ++ s).length + 1 := by simp; omega
  refine ⟨⟨A, G, B, e, hA, hB, hd, hG.mv (by omega), fun z => hB0 (by omega), fun z => by omega⟩, ⟨by omega, by omega, i3, fun _ => i4 st0⟩, by rw [ln]; omega, ⟨N, by omega, ?_⟩, ⟨fun z => by omega, fun z => j2 (by omega), fun _ => ?_, fun z => ?_⟩, ?_, ?_, j7⟩
  · rw [ln]
    split at i7 <;> split <;> omega
  · rw [hbe, tys_app j3]
    split <;> rfl
  · rcases hb with ⟨h1, h2⟩ | ⟨h1, h2⟩ | ⟨h1, h2⟩ | ⟨h1, h2⟩
    · omega
    · exact j4 (by omega)
    · exact j4 (by omega)
    · exact j4 (by omega)
  · rw [vals_app]
    have : vals [((if tkK t n q = 1 then 0 else 1 : Nat), (tkV t n q).toNatClampNeg)] ≤ 1 := by
      by_cases c : tkK t n q = 1 <;> simp [vals, c]
    omega
  · intro u hu
    rw [← List.append_assoc] at hu
    rw [List.mem_append] at hu
    rcases hu with hu | hu
    · exact j6 u hu
    · simp at hu
      subst hu
      by_cases c : tkK t n q = 1
      · obtain ⟨v, hv, ev⟩ := val_nat c c2
        left
        rw [if_pos c, ev, nI_clamp (by omega)]
        exact ⟨rfl, hv⟩
      · have c5 : tkK t n q = 2 ∧ 0 ≤ tkV t n q ∧ tkV t n q < 12 := Decidable.not_not.mp (fun z => c1 ⟨c, z⟩)
        obtain ⟨r, hr, er⟩ := rn_of (n := 12) (by decide) ⟨c5.2.1, c5.2.2⟩
        right; left
        rw [if_neg c, er, nI_clamp (by omega)]
        exact ⟨rfl, hr⟩
