/-! a clause's end -/
def CE (t : Nat → Int32) (n p pa : Nat) (cl : List (List (Nat × Nat) × List (Nat × Nat))) (c : List (Nat × Nat) × List (Nat × Nat)) (R : Int32 × List (List (Nat × Nat) × List (Nat × Nat))) : Prop := (n ≤ sk t n p → R = (0, cl ++ [c])) ∧ (sk t n p < n → t (sk t n p) = 59 → mInv (sk t n p + 1, 0, [], pa, cl ++ [c], [], []) ∧ rnM t n (sk t n p + 1, 0, [], pa, cl ++ [c], [], []) = R) ∧ (sk t n p < n → ¬ t (sk t n p) = 59 → R = (rfF 0 (sk t n p) 0, []))
theorem cl_end {t : Nat → Int32} {n p st pa : Nat} {cl : List (List (Nat × Nat) × List (Nat × Nat))} {su s : List (Nat × Nat)} {R : Int32 × List (List (Nat × Nat) × List (Nat × Nat))} (hb : ∀ i, i < n → byB (t i)) (hp : p ≤ n) (I : mInv (p, st, [], pa, cl, su, s)) (hrn : rnM t n (p, st, [], pa, cl, su, s) = R) (hst : (st = 2 ∧ ¬ isWd t n (sk t n p) 14 ∧ tgO (tkO t n (sk t n p)) < 5) ∨ (st = 8 ∧ ¬ (tkO t n (sk t n p) = 10 ∨ tkO t n (sk t n p) = 11))) : CE t n p pa cl (if st = 2 then (s, []) else (su, s)) R := by
  have hpn : ((p, st, [], pa, cl, su, s) : MS).1 ≤ n := hp
  have hq : sk t n p ≤ n := ru_le hp
  have e1 : mstep t n (p, st, [], pa, cl, su, s) = mgo t n (sk t n p) st [] pa cl su s := by
    unfold mstep
    simp only
    rw [if_neg (by omega), if_neg (by omega), if_neg (by omega)]
  have e2 : mgo t n (sk t n p) st [] pa cl su s = if (tkK t n (sk t n p) = 0 ∨ (tkK t n (sk t n p) = 3 ∧ tkV t n (sk t n p) = 59)) then (if tkK t n (sk t n p) = 0 then .inl (0, cl ++ [if st = 2 then (s, []) else (su, s)]) else .inr (tkE t n (sk t n p), 0, [], pa, cl ++ [if st = 2 then (s, []) else (su, s)], [], [])) else .inl (rfF 0 (sk t n p) 0, []) := by
    have b0 : brc [] = 0 := rfl
    have m0 : emL 0 [] = [] := rfl
    unfold mgo
    have x3 : ¬ ((tkO t n (sk t n p) = 10 ∨ tkO t n (sk t n p) = 11) ∧ (st = 6 ∨ st = 8)) := fun z => by
      rcases hst with h | h
      · omega
      · exact h.2 z.1
    have x4 : ¬ (isWd t n (sk t n p) 14 ∧ st = 2) := fun z => by
      rcases hst with h | h
      · exact h.2.1 z.1
      · omega
    rw [if_neg (fun z => by omega), if_neg (fun z => by omega), if_neg x3, if_neg x4, if_neg (fun z => by omega), m0, List.append_nil]
    by_cases c : tkK t n (sk t n p) = 0 ∨ (tkK t n (sk t n p) = 3 ∧ tkV t n (sk t n p) = 59)
    · rw [if_pos c, if_pos ⟨c, by omega⟩]
    · rw [if_neg c, if_neg (fun z => c z.1)]
  rw [e2] at e1
  obtain ⟨s1, s2⟩ := sgn_eq (t := t) (n := n) (q := sk t n p) (c := 59) hb (by decide) (by decide) (by decide) (by decide) (by decide) (by decide)
  have sg := sg_eq (t := t) (n := n) (p := sk t n p) (k := 59) hb (by decide) (by decide)
  generalize (if st = 2 then (s, []) else (su, s)) = c at *
  refine ⟨fun z => ?_, fun lt z => ?_, fun lt z => ?_⟩
  · have k0 : tkK t n (sk t n p) = 0 := by unfold tkK; rw [if_pos z]
    rw [if_pos (Or.inl k0), if_pos k0] at e1
    rw [← hrn]
    exact rnM_out hpn e1
  · have y : sgF t n (sk t n p) = 59 := by rw [sg]; exact ⟨lt, z⟩
    have k3 := s1.mp y
    rw [if_pos (Or.inr k3), if_neg (by omega), (s2 y).1] at e1
    exact ⟨mstep_inv I hpn e1, (rnM_in hpn e1).symm.trans hrn⟩
  · have k0 : ¬ tkK t n (sk t n p) = 0 := by
      unfold tkK
      rw [if_neg (by omega)]
      split
      · decide
      · split <;> decide
    have k3 : ¬ (tkK t n (sk t n p) = 3 ∧ tkV t n (sk t n p) = 59) := fun y => by
      have := s1.mpr y
      rw [sg] at this
      exact z this.2
    rw [if_neg (fun y => y.elim k0 k3)] at e1
    rw [← hrn]
    exact rnM_out hpn e1
def SA (h : AH) (m r : Nat) (cl : List (List (Nat × Nat) × List (Nat × Nat))) : Prop := ∀ (i : Nat) (c : List (Nat × Nat) × List (Nat × Nat)), cl[i]? = some c → hI h (m + 25) (12 * r + i) = nI (flK (cl.take i)).length ∧ hI h (m + 26) (12 * r + i) = nI ((flK (cl.take i)).length + c.1.length) ∧ hI h (m + 27) (12 * r + i) = nI ((flK (cl.take i)).length + c.1.length + c.2.length)
theorem SA.cg {h h' : AH} {m r : Nat} {cl : List (List (Nat × Nat) × List (Nat × Nat))} (H : SA h m r cl) (e : ∀ b, m + 25 ≤ b → b ≤ m + 27 → ∀ j, 12 * r ≤ j → j < 12 * r + cl.length → hI h' b j = hI h b j) : SA h' m r cl := fun i c hc => by
  have hi := getq_lt hc
  rw [e (m + 25) (by omega) (by omega) _ (by omega) (by omega), e (m + 26) (by omega) (by omega) _ (by omega) (by omega), e (m + 27) (by omega) (by omega) _ (by omega) (by omega)]
  exact H i c hc
theorem SA.add {h : AH} {m r : Nat} {cl : List (List (Nat × Nat) × List (Nat × Nat))} {c : List (Nat × Nat) × List (Nat × Nat)} (H : SA h m r cl) (e1 : hI h (m + 25) (12 * r + cl.length) = nI (flK cl).length) (e2 : hI h (m + 26) (12 * r + cl.length) = nI ((flK cl).length + c.1.length)) (e3 : hI h (m + 27) (12 * r + cl.length) = nI ((flK cl).length + c.1.length + c.2.length)) : SA h m r (cl ++ [c]) := fun i d hd => by
  by_cases z : i < cl.length
  · rw [List.getElem?_append_left z] at hd
    rw [List.take_append_of_le_length (by omega)]
    exact H i d hd
  · have := getq_lt hd
    simp at this
    have e : i = cl.length := by omega
    subst e
    rw [List.getElem?_append_right (Nat.le_refl _)] at hd
    simp at hd
    subst hd
    rw [List.take_append_of_le_length (Nat.le_refl _), List.take_length]
    exact ⟨e1, e2, e3⟩
def FRr (h h' : AH) (m r : Nat) : Prop := Fr' h h' (fun c => c = m ∨ (m + 22 ≤ c ∧ c ≤ m + 28)) ∧ (∀ j, j ≠ 22 → j ≠ 23 → j ≠ 26 → j ≠ 27 → j ≠ 28 → j ≠ 29 → hI h' m j = hI h m j) ∧ (∀ b, m + 22 ≤ b → b ≤ m + 23 → ∀ j, j < 300 * r ∨ 300 * r + 300 ≤ j → hI h' b j = hI h b j) ∧ (∀ j, hI h' (m + 24) j = hI h (m + 24) j) ∧ (∀ b, m + 25 ≤ b → b ≤ m + 27 → ∀ j, j < 12 * r ∨ 12 * r + 12 ≤ j → hI h' b j = hI h b j)
theorem FRr.refl (h : AH) (m r : Nat) : FRr h h m r := ⟨Fr'.refl _ _, fun _ _ _ _ _ _ _ => rfl, fun _ _ _ _ _ => rfl, fun _ => rfl, fun _ _ _ _ _ => rfl⟩
theorem FRr.trans {h h1 h2 : AH} {m r : Nat} (a : FRr h h1 m r) (b : FRr h1 h2 m r) : FRr h h2 m r := ⟨a.1.trans b.1, fun j c1 c2 c3 c4 c5 c6 => (b.2.1 j c1 c2 c3 c4 c5 c6).trans (a.2.1 j c1 c2 c3 c4 c5 c6), fun c h1 h2 j hj => (b.2.2.1 c h1 h2 j hj).trans (a.2.2.1 c h1 h2 j hj), fun j => (b.2.2.2.1 j).trans (a.2.2.2.1 j), fun c h1 h2 j hj => (b.2.2.2.2 c h1 h2 j hj).trans (a.2.2.2.2 c h1 h2 j hj)⟩
theorem FRo.r {h h' : AH} {m r : Nat} (f : FRo h h' m r) : FRr h h' m r := ⟨f.1.mono (fun c z => by omega), f.2.1, fun b h1 h2 j hj => by
  have : b = m + 22 ∨ b = m + 23 := by omega
  rcases this with rfl | rfl
  · exact (f.2.2 j hj).1
  · exact (f.2.2 j hj).2, fun j => f.1.2.2.2.2.1 (m + 24) (by omega) j, fun b h1 h2 j _ => f.1.2.2.2.2.1 b (by omega) j⟩
theorem FRr.m30 {h h' : AH} {m r : Nat} (f : FRr h h' m r) : hI h' m 30 = hI h m 30 := f.2.1 30 (by decide) (by decide) (by decide) (by decide) (by decide) (by decide)
theorem SA.fro {h h' : AH} {m r r' : Nat} {cl : List (List (Nat × Nat) × List (Nat × Nat))} (H : SA h m r cl) (f : FRo h h' m r') : SA h' m r cl := H.cg (fun b h1 h2 j _ _ => f.1.2.2.2.2.1 b (by omega) j)
/-- one of the three rows of places written -/
theorem FRr.w {h : AH} {m r i b : Nat} {v : Int32} (hb : m + 25 ≤ b ∧ b ≤ m + 27) (hi : i < 12) : FRr h (sI h b (12 * r + i) v) m r := ⟨Fr'.sI (by omega), fun j _ _ _ _ _ _ => by rw [hI_sI, if_neg (by omega)], fun c h1 h2 j _ => by rw [hI_sI, if_neg (by omega)], fun j => by rw [hI_sI, if_neg (by omega)], fun c h1 h2 j hj => by
  rw [hI_sI]
  split
  · split
    · omega
    · rename_i z _; subst z; rfl
  · rfl⟩
