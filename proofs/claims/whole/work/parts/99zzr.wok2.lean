/-! what holds is kept: texts, rules, images -/
theorem twOk.mono {n n' : Nat} {T : TW} (H : twOk n T) (h : n ≤ n') : twOk n' T := by
  obtain ⟨nr, nw, A, fo, x, M, ps, ns⟩ := T
  obtain ⟨h1, h2, h3, i, hi, e⟩ := H
  exact ⟨h1, h2, h3, i, by omega, e⟩
theorem wOk.image {T : TW} {cls : List (List (List (Nat × Nat) × List (Nat × Nat)))} {tp : List Int32} {im : Nat → Option TW} {s : Int32} (H : wOk (T, cls, tp, im)) : wOk (T, cls, tp, (oImage T im s).2) := by
  obtain ⟨⟨h1, h2⟩, h3⟩ := H
  refine ⟨⟨h1, fun i T' hi e => ?_⟩, h3⟩
  unfold oImage at e
  split at e
  · dsimp only at e
    split at e
    · cases e; exact h1
    · exact h2 i T' hi e
  · exact h2 i T' hi e
theorem wOk.back {T : TW} {cls : List (List (List (Nat × Nat) × List (Nat × Nat)))} {tp : List Int32} {im : Nat → Option TW} {s : Int32} (H : wOk (T, cls, tp, im)) : wOk ((oBack T im s).2, cls, tp, im) := by
  obtain ⟨⟨h1, h2⟩, h3⟩ := H
  refine ⟨⟨?_, h2⟩, h3⟩
  unfold oBack
  split
  · rename_i z
    have hs : s.toNatClampNeg < 4 := by
      obtain ⟨i, hi, rfl⟩ := rn_of (n := 4) (by decide) ⟨z.1, show s < nI 4 from Int32.lt_of_le_of_lt z.2 (by decide)⟩
      rw [nI_clamp (by omega)]; exact hi
    split
    · exact h1
    · rename_i T' e
      exact h2 _ T' hs e
  · exact h1
theorem wOk.end {T : TW} {cls : List (List (List (Nat × Nat) × List (Nat × Nat)))} {tp : List Int32} {im : Nat → Option TW} {n : Int32} (H : wOk (T, cls, tp, im)) : wOk (T, cls, (oEnd tp n).2, im) := by
  refine ⟨H.1, fun b hb => ?_⟩
  unfold oEnd at hb
  split at hb
  · exact H.2 b (List.mem_of_mem_take hb)
  · exact H.2 b hb
theorem by_i8 (y : Int8) : byB (Int8.toInt32 y) := by
  have h1 := Int8.le_toInt y
  have h2 := Int8.toInt_lt y
  refine ⟨(y.toInt + 128).toNat, by omega, ?_⟩
  apply Int32.toInt_inj.mp
  rw [Int32.toInt_sub, nI_toInt (by omega), Int.toNat_of_nonneg (by omega), Int8.toInt_toInt32]
  have : (128 : Int32).toInt = 128 := by decide
  rw [this, Int.bmod_eq_of_le (by omega) (by omega)]
  omega
theorem by_byT (x k : Int32) : byB (byT x k) := by
  unfold byT
  first | exact by_i8 _ | (rw [vp_nar]; exact by_i8 _) | (simp only [vp_nar]; exact by_i8 _)
theorem wOk.feed {T : TW} {cls : List (List (List (Nat × Nat) × List (Nat × Nat)))} {tp : List Int32} {im : Nat → Option TW} {a b c d e : Int32} (H : wOk (T, cls, tp, im)) : wOk (T, cls, (oFeed tp a b c d e).2, im) := by
  refine ⟨H.1, fun q hq => ?_⟩
  unfold oFeed at hq
  split at hq
  · simp only [List.mem_append, pt4, List.mem_cons, List.not_mem_nil, or_false] at hq
    rcases hq with ((((hq | hq) | hq) | hq) | hq) | hq
    · exact H.2 q hq
    all_goals (rcases hq with rfl | rfl | rfl | rfl <;> exact by_byT _ _)
  · exact H.2 q hq
theorem wOk.hill {nr nw : Nat} {A M : PC} {fo x : Int32} {ps : List PC} {ns : List (Nat × Nat × Int32)} {cls : List (List (List (Nat × Nat) × List (Nat × Nat)))} {tp : List Int32} {im : Nat → Option TW} (ht : tp.length ≤ 400) (H : wOk ((nr, nw, A, fo, x, M, ps, ns), cls, tp, im)) : wOk ((oHill (nr, nw, A, fo, x, M, ps, ns) tp).2, cls, [], im) := by
  obtain ⟨⟨h1, h2⟩, h3⟩ := H
  refine ⟨⟨?_, h2⟩, fun b hb => by simp at hb⟩
  unfold oHill
  split
  · rename_i z
    have ok := hl_ok ht z
    exact ⟨Or.inr ⟨ok, (begM_ok ok).mono (by decide), fun N hN => by simp at hN⟩, ⟨by simp, fun k q hq => by simp at hq⟩, h1.2.2⟩
  · exact h1
theorem wOk.rule {T : TW} {cls : List (List (List (Nat × Nat) × List (Nat × Nat)))} {tp : List Int32} {im : Nat → Option TW} (H : wOk (T, cls, tp, im)) : wOk (T, (oRule cls tp).2.1, (oRule cls tp).2.2, im) := by
  obtain ⟨⟨h1, h2⟩, h3⟩ := H
  unfold oRule
  split
  · exact ⟨⟨h1, h2⟩, h3⟩
  · split
    · exact ⟨⟨h1.mono (by simp), fun s T' hs e => (h2 s T' hs e).mono (by simp)⟩, fun b hb => by simp at hb⟩
    · exact ⟨⟨h1, h2⟩, fun b hb => by simp at hb⟩
/-- the reference's cells are as they were -/
theorem RW.eqm {h h' : AH} {x : Nat} {W : WS} (H : RW h (x + 101) W) (E : EqM h' h x) : RW h' (x + 101) W := by
  obtain ⟨T, cls, tp, im⟩ := W
  obtain ⟨w1, w2, w3, ⟨w4, w5, w6⟩, ⟨w7, w8, w9⟩, w10, w11⟩ := H
  have g : ∀ c, x + 101 ≤ c → c ≤ x + 144 → ∀ j, hI h' c j = hI h c j := fun c a b => (E c a b).2.2.1
  have gs : ∀ c, x + 101 ≤ c → c ≤ x + 144 → hS h' c = hS h c := fun c a b => (E c a b).1
  have gr : ∀ j, hR h' (x + 101) j = hR h (x + 101) j := (E (x + 101) (by omega) (by omega)).2.1
  refine ⟨?_, w2.cg (fun r hr j hj => ?_), fun j hj => (g _ (by omega) (by omega) j).trans (w3 j hj), ⟨(g _ (by omega) (by omega) 25).trans w4, w5, fun i c hc => (w6 i c hc).cg (fun b h1 h2 => g b (by omega) (by omega))⟩, ⟨(g _ (by omega) (by omega) 21).trans w7, w8, fun i b hb => (g _ (by omega) (by omega) i).trans (w9 i b hb)⟩, fun s hs => (w10 s hs).cg hs (g _ (by omega) (by omega) s) (fun j _ _ => g _ (by omega) (by omega) j), (g _ (by omega) (by omega) 30).trans w11⟩
  · unfold ModAt at w1 ⊢
    simp (disch := omega) only [gs, gr]
    exact w1
  · have : r ≤ 34 := (by decide : ∀ r ∈ rowsL, r ≤ 34) r hr
    unfold refP
    split
    · exact g _ (by omega) (by omega) 45
    · exact g _ (by omega) (by omega) j
