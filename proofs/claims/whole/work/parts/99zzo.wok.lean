/-! what holds of the state is kept by each step -/
def wOk (W : WS) : Prop := wsOk W ∧ ∀ b ∈ W.2.2.1, byB b
theorem mom_set {D : Int} {nr nw k r : Nat} {M : PC} {v : Int32} (h : momOk D nr nw M) (hv : (k = 1 ∧ 1 ≤ v.toInt ∧ v.toInt ≤ 20) ∨ (k = 2 ∧ -99 ≤ v.toInt ∧ v.toInt ≤ 99) ∨ (k = 4 ∧ 1 ≤ v.toInt ∧ v.toInt ≤ 99)) : momOk D nr nw (setC M k r v) := by
  obtain ⟨h1, h2, h3⟩ := h
  have hk : k ≠ 0 ∧ k ≠ 3 := by omega
  unfold setC
  refine ⟨?_, fun j hj => ?_, fun j hj => ?_⟩
  · dsimp only
    rw [if_neg (fun z => hk.1 z.1.symm)]; exact h1
  · obtain ⟨a, b, c⟩ := h2 j hj
    dsimp only
    refine ⟨?_, ?_, ?_⟩
    · split
      · rename_i z; omega
      · exact a
    · split
      · rename_i z; omega
      · exact b
    · rw [if_neg (fun z => hk.2 z.1.symm)]; exact c
  · have := h3 j hj
    dsimp only
    split
    · rename_i z; omega
    · exact this
theorem tw_hil {n nr nw : Nat} {A M : PC} {fo x : Int32} {ps : List PC} {ns : List (Nat × Nat × Int32)} (H : twOk n (nr, nw, A, fo, x, M, ps, ns)) (h : 0 < nr ∨ 0 < nw ∨ 0 < A 0 0) : hilOk nr nw A ∧ momOk 999 nr nw M := by
  rcases H.1 with ⟨a, b, c, -⟩ | ⟨a, b, -⟩
  · exfalso
    rcases h with h | h | h
    · omega
    · omega
    · rw [a] at h; exact absurd h (by decide)
  · exact ⟨a, b⟩
theorem wOk.nx {nr nw : Nat} {A M : PC} {fo x : Int32} {ps : List PC} {ns : List (Nat × Nat × Int32)} {cls : List (List (List (Nat × Nat) × List (Nat × Nat)))} {tp : List Int32} {im : Nat → Option TW} {o : Option PC} (H : wOk ((nr, nw, A, fo, x, M, ps, ns), cls, tp, im)) (h : o = none ∨ ∃ M', o = some M' ∧ hilOk nr nw A ∧ momOk 999 nr nw M') : wOk (nxT (nr, nw, A, fo, x, M, ps, ns) o, cls, tp, im) := by
  rcases h with rfl | ⟨M', rfl, h1, h2⟩
  · exact H
  · exact ⟨⟨H.1.1.act h1 h2, H.1.2⟩, H.2⟩
theorem i32_le {a b : Int32} : a ≤ b ↔ a.toInt ≤ b.toInt := Int32.le_iff_toInt_le
theorem wOk.fall {nr nw : Nat} {A M : PC} {fo x : Int32} {ps : List PC} {ns : List (Nat × Nat × Int32)} {cls : List (List (List (Nat × Nat) × List (Nat × Nat)))} {tp : List Int32} {im : Nat → Option TW} {q : Int32} (H : wOk ((nr, nw, A, fo, x, M, ps, ns), cls, tp, im)) : wOk (nxT (nr, nw, A, fo, x, M, ps, ns) (oFall nr M q).2, cls, tp, im) := by
  refine H.nx ?_
  unfold oFall
  split
  · rename_i z
    have hr : 0 < nr := by
      cases nr with
      | zero => exact absurd (Int32.lt_of_le_of_lt z.1.1 z.1.2) (by decide)
      | succ k => omega
    obtain ⟨a, b⟩ := tw_hil H.1.1 (Or.inl hr)
    exact Or.inr ⟨_, rfl, a, mom_set b (Or.inr (Or.inl ⟨rfl, by decide, by decide⟩))⟩
  · exact Or.inl rfl
theorem wOk.lend {nr nw : Nat} {A M : PC} {fo x : Int32} {ps : List PC} {ns : List (Nat × Nat × Int32)} {cls : List (List (List (Nat × Nat) × List (Nat × Nat)))} {tp : List Int32} {im : Nat → Option TW} {p q c : Int32} (H : wOk ((nr, nw, A, fo, x, M, ps, ns), cls, tp, im)) : wOk (nxT (nr, nw, A, fo, x, M, ps, ns) (oLend nr M p q c).2, cls, tp, im) := by
  refine H.nx ?_
  unfold oLend
  split
  · rename_i z
    obtain ⟨⟨c1, c2⟩, ⟨p1, p2⟩, ⟨q1, q2⟩, -, v1, v2⟩ := z
    have hr : 0 < nr := by
      cases nr with
      | zero => exact absurd (Int32.lt_of_le_of_lt p1 p2) (by decide)
      | succ k => omega
    obtain ⟨a, b⟩ := tw_hil H.1.1 (Or.inl hr)
    have nr5 := a.1
    obtain ⟨i, hi, ei⟩ := rn_of (n := nr) (by omega) ⟨p1, p2⟩
    obtain ⟨j, hj, ej⟩ := rn_of (n := nr) (by omega) ⟨q1, q2⟩
    have bi := (b.2.1 i hi).2.1
    have bj := (b.2.1 j hj).2.1
    subst ei ej
    rw [nI_clamp (by omega)] at v1 ⊢
    rw [nI_clamp (by omega)] at v2 ⊢
    rw [i32_le] at c1 c2 v1 v2
    have k1 : (1 : Int32).toInt = 1 := by decide
    have k20 : (20 : Int32).toInt = 20 := by decide
    have k99 : (99 : Int32).toInt = 99 := by decide
    have km99 : (-99 : Int32).toInt = -99 := by decide
    have e1 : (M 2 i - c).toInt = (M 2 i).toInt - c.toInt := by
      rw [Int32.toInt_sub]
      exact Int.bmod_eq_of_le (by omega) (by omega)
    have e2 : (M 2 j + c).toInt = (M 2 j).toInt + c.toInt := by
      rw [Int32.toInt_add]
      exact Int.bmod_eq_of_le (by omega) (by omega)
    rw [e1] at v1
    rw [e2] at v2
    exact Or.inr ⟨_, rfl, a, mom_set (mom_set b (Or.inr (Or.inl ⟨rfl, by rw [e1]; omega, by rw [e1]; omega⟩))) (Or.inr (Or.inl ⟨rfl, by rw [e2]; omega, by rw [e2]; omega⟩))⟩
  · exact Or.inl rfl
theorem wOk.train {nr nw : Nat} {A M : PC} {fo x : Int32} {ps : List PC} {ns : List (Nat × Nat × Int32)} {cls : List (List (List (Nat × Nat) × List (Nat × Nat)))} {tp : List Int32} {im : Nat → Option TW} {q v : Int32} (H : wOk ((nr, nw, A, fo, x, M, ps, ns), cls, tp, im)) : wOk (nxT (nr, nw, A, fo, x, M, ps, ns) (oTrain nr M q v).2, cls, tp, im) := by
  refine H.nx ?_
  unfold oTrain
  split
  · rename_i z
    have hr : 0 < nr := by
      cases nr with
      | zero => exact absurd (Int32.lt_of_le_of_lt z.1.1 z.1.2) (by decide)
      | succ k => omega
    obtain ⟨a, b⟩ := tw_hil H.1.1 (Or.inl hr)
    have z1 := z.2.1.1
    have z2 := z.2.1.2
    rw [i32_le] at z1 z2
    exact Or.inr ⟨_, rfl, a, mom_set b (Or.inl ⟨rfl, z1, z2⟩)⟩
  · exact Or.inl rfl
theorem wOk.shift {nr nw : Nat} {A M : PC} {fo x : Int32} {ps : List PC} {ns : List (Nat × Nat × Int32)} {cls : List (List (List (Nat × Nat) × List (Nat × Nat)))} {tp : List Int32} {im : Nat → Option TW} {q v : Int32} (H : wOk ((nr, nw, A, fo, x, M, ps, ns), cls, tp, im)) : wOk (nxT (nr, nw, A, fo, x, M, ps, ns) (oShift nw M q v).2, cls, tp, im) := by
  refine H.nx ?_
  unfold oShift
  split
  · rename_i z
    have hr : 0 < nw := by
      cases nw with
      | zero => exact absurd (Int32.lt_of_le_of_lt z.1.1 z.1.2) (by decide)
      | succ k => omega
    obtain ⟨a, b⟩ := tw_hil H.1.1 (Or.inr (Or.inl hr))
    have z1 := z.2.1.1
    have z2 := z.2.1.2
    rw [i32_le] at z1 z2
    exact Or.inr ⟨_, rfl, a, mom_set b (Or.inr (Or.inr ⟨rfl, z1, z2⟩))⟩
  · exact Or.inl rfl
theorem wOk.day {nr nw : Nat} {A M : PC} {fo x : Int32} {ps : List PC} {ns : List (Nat × Nat × Int32)} {cls : List (List (List (Nat × Nat) × List (Nat × Nat)))} {tp : List Int32} {im : Nat → Option TW} {R : Option (List (List (Nat × Nat) × List (Nat × Nat)))} (H : wOk ((nr, nw, A, fo, x, M, ps, ns), cls, tp, im)) : wOk (nxT (nr, nw, A, fo, x, M, ps, ns) (oDay nr nw A M R).2, cls, tp, im) := by
  refine H.nx ?_
  unfold oDay
  split
  · rename_i z
    obtain ⟨a, b⟩ := tw_hil H.1.1 (Or.inr (Or.inr z.1))
    have ne : (M 0 0).toInt ≠ 999 := fun e => z.2 (Int32.toInt_inj.mp (by rw [e]; rfl))
    have b' : momOk 998 nr nw M := ⟨⟨b.1.1, by have := b.1.2; omega⟩, b.2⟩
    exact Or.inr ⟨_, rfl, a, paF_ok (by decide) a b'⟩
  · exact Or.inl rfl
theorem wOk.undo {nr nw : Nat} {A M N : PC} {fo x : Int32} {qs : List PC} {ns : List (Nat × Nat × Int32)} {cls : List (List (List (Nat × Nat) × List (Nat × Nat)))} {tp : List Int32} {im : Nat → Option TW} (H : wOk ((nr, nw, A, fo, x, M, qs ++ [N], ns), cls, tp, im)) : wOk ((nr, nw, A, fo, x, N, qs, ns), cls, tp, im) := by
  obtain ⟨⟨⟨h1, h2⟩, h3⟩, h4⟩ := H
  refine ⟨⟨⟨?_, h2⟩, h3⟩, h4⟩
  rcases h1 with ⟨-, -, -, -, e⟩ | ⟨a, b, c⟩
  · exact absurd e (by simp)
  · exact Or.inr ⟨a, c N (by simp), fun P hP => c P (by simp [hP])⟩
theorem wOk.note {nr nw : Nat} {A M : PC} {fo x : Int32} {ps : List PC} {ns : List (Nat × Nat × Int32)} {cls : List (List (List (Nat × Nat) × List (Nat × Nat)))} {tp : List Int32} {im : Nat → Option TW} {n w q : Int32} (H : wOk ((nr, nw, A, fo, x, M, ps, ns), cls, tp, im)) : wOk ((nr, nw, A, fo, x, M, ps, (oNote nr nw ns n w q).2), cls, tp, im) := by
  have hnw : nw ≤ 6 := by
    rcases H.1.1.1 with ⟨-, -, e, -⟩ | ⟨a, -⟩
    · omega
    · exact a.2.1
  obtain ⟨⟨⟨h1, h2, h5⟩, h3⟩, h4⟩ := H
  refine ⟨⟨⟨h1, ?_, h5⟩, h3⟩, h4⟩
  unfold oNote
  split
  · exact ⟨by simp, fun k q hq => by simp at hq⟩
  · split
    · rename_i z
      obtain ⟨⟨n1, n2⟩, ⟨w1, w2⟩, -, l⟩ := z
      obtain ⟨i, hi, ei⟩ := rn_of (n := 61) (by decide) ⟨n1, show n < nI 61 from Int32.lt_of_le_of_lt n2 (by decide)⟩
      obtain ⟨j, hj, ej⟩ := rn_of (n := nw) (by omega) ⟨w1, w2⟩
      subst ei ej
      rw [nI_clamp (by omega), nI_clamp (by omega)]
      have := h2.1
      refine ⟨by simp; omega, fun k u hu => ?_⟩
      by_cases c : k < ns.length
      · rw [List.getElem?_append_left c] at hu
        exact h2.2 k u hu
      · have := getq_lt hu
        simp at this
        have e : k = ns.length := by omega
        subst e
        rw [List.getElem?_append_right (Nat.le_refl _)] at hu
        simp at hu
        subst hu
        exact ⟨by show i ≤ 60; omega, hj⟩
    · exact h2
theorem wOk.force {nr nw : Nat} {A M : PC} {fo x : Int32} {ps : List PC} {ns : List (Nat × Nat × Int32)} {cls : List (List (List (Nat × Nat) × List (Nat × Nat)))} {tp : List Int32} {im : Nat → Option TW} {n : Int32} (hc : cls.length ≤ 6) (H : wOk ((nr, nw, A, fo, x, M, ps, ns), cls, tp, im)) : wOk ((nr, nw, A, (oForce fo cls.length n).2, x, M, ps, ns), cls, tp, im) := by
  obtain ⟨⟨⟨h1, h2, h5, h6⟩, h3⟩, h4⟩ := H
  refine ⟨⟨⟨h1, h2, h5, ?_⟩, h3⟩, h4⟩
  unfold oForce
  split
  · rename_i z
    obtain ⟨z1, z2⟩ := z
    rw [i32_le] at z1 z2
    have e1 : (nI cls.length - 1).toInt = (cls.length : Int) - 1 := by
      rw [Int32.toInt_sub, nI_toInt (by omega)]
      exact Int.bmod_eq_of_le (by show _ ≤ (cls.length : Int) - 1; omega) (by show (cls.length : Int) - 1 < _; omega)
    have km : (-1 : Int32).toInt = -1 := by decide
    rw [e1] at z2
    rw [km] at z1
    refine ⟨(n.toInt + 1).toNat, by omega, ?_⟩
    apply Int32.toInt_inj.mp
    unfold cI
    rw [Int32.toInt_sub, nI_toInt (by omega)]
    have : (1 : Int32).toInt = 1 := by decide
    rw [this, Int.toNat_of_nonneg (by omega)]
    rw [Int.bmod_eq_of_le (by omega) (by omega)]
    show n.toInt = _
    omega
  · exact h6
theorem wOk.seed {nr nw : Nat} {A M : PC} {fo x : Int32} {ps : List PC} {ns : List (Nat × Nat × Int32)} {cls : List (List (List (Nat × Nat) × List (Nat × Nat)))} {tp : List Int32} {im : Nat → Option TW} {n : Int32} (H : wOk ((nr, nw, A, fo, x, M, ps, ns), cls, tp, im)) : wOk ((nr, nw, A, fo, (oSeed x n).2, M, ps, ns), cls, tp, im) := by
  obtain ⟨⟨⟨h1, h2, h5, h6⟩, h3⟩, h4⟩ := H
  refine ⟨⟨⟨h1, h2, ?_, h6⟩, h3⟩, h4⟩
  unfold oSeed
  split
  · rename_i z
    rw [i32_le] at z
    have k0 : (0 : Int32).toInt = 0 := by decide
    have hb := Int32.toInt_lt n
    refine ⟨n.toInt.toNat, by omega, ?_⟩
    apply Int32.toInt_inj.mp
    rw [nI_toInt (by omega), Int.toNat_of_nonneg (by omega)]
  · exact h5
