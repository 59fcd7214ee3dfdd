/-! the class reads a hill -/
abbrev isWd (t : Nat → Int32) (n q k : Nat) : Prop := tkK t n q = 2 ∧ eqW t q (tkE t n q) k
def nq (t : Nat → Int32) (n q : Nat) : Nat := sk t n (tkE t n q)
theorem nq_le {t : Nat → Int32} {n q : Nat} (h : q ≤ n) : q ≤ nq t n q ∧ nq t n q ≤ n := by
  have := tkE_le (t := t) h
  have g := ru_ge (P := isSp) (t := t) (n := n) (p := tkE t n q)
  have l := ru_le (P := isSp) (t := t) this.2
  unfold nq sk
  omega
def hclF (t : Nat → Int32) (n c q nr nw : Nat) (A : PC) : Int32 × Nat × Nat × Nat × PC :=
  if isWd t n q 12 ∧ c = 0 then (nbF t n (nq t n q) 1 60 0, nq t n (nq t n q), nr, nw, setC A 0 0 (tkV t n (nq t n q)))
  else if isWd t n q 0 ∧ (0 < c ∧ c < 40) ∧ nr < 5 then (nbF t n (nq t n (nq t n q)) 0 40 (nbF t n (nq t n q) 1 20 0), nq t n (nq t n (nq t n q)), nr + 1, nw, setC (setC A 1 nr (tkV t n (nq t n q))) 2 nr (tkV t n (nq t n (nq t n q))))
  else if isWd t n q 1 ∧ (0 < c ∧ c < 40) ∧ nw < 6 then (nbF t n (nq t n (nq t n (nq t n q))) 1 9 (nbF t n (nq t n (nq t n q)) 1 50 (nbF t n (nq t n q) 1 99 0)), nq t n (nq t n (nq t n (nq t n q))), nr, nw + 1, setC (setC (setC A 3 nw (tkV t n (nq t n q))) 4 nw (tkV t n (nq t n (nq t n q)))) 5 nw (tkV t n (nq t n (nq t n (nq t n q)))))
  else (rfF 0 q (if isWd t n q 12 ∨ isWd t n q 0 ∨ isWd t n q 1 then 4 else 0), q, nr, nw, A)
def HRd (h : AH) (a nr nw : Nat) (A : PC) : Prop := HillAt h a ∧ (hI h a 0 = A 0 0 ∧ hI h a 1 = nI nr ∧ hI h a 2 = nI nw) ∧ (nr ≤ 5 ∧ nw ≤ 6) ∧ (∀ j, j < nr → hI h (a + 1) j = A 1 j ∧ hI h (a + 2) j = A 2 j) ∧ (∀ j, j < nw → hI h (a + 3) j = A 3 j ∧ hI h (a + 4) j = A 4 j ∧ hI h (a + 5) j = A 5 j)
theorem rfF_ne {fa : Int32} {q c : Nat} (hq : q ≤ 400) (hc : c < 8) : rfF fa q c ≠ 0 := by
  unfold rfF
  split
  · intro z
    have : nI (1 + 8 * q + c) = nI 0 := z
    rw [nI_eq_iff (by omega) (by omega)] at this
    omega
  · assumption
theorem nbF_0 {t : Nat → Int32} {n q : Nat} {lo hi fa : Int32} (hq : q ≤ 400) (h : nbF t n q lo hi fa = 0) : fa = 0 ∧ tkK t n q = 1 ∧ lo ≤ tkV t n q ∧ tkV t n q ≤ hi := by
  unfold nbF at h
  split at h
  · split at h
    · rename_i h1 h2
      exact ⟨h, h1, h2⟩
    · exact absurd h (rfF_ne hq (by omega))
  · exact absurd h (rfF_ne hq (by omega))
theorem TxAt.cg {h h' : AH} {b n q : Nat} {t : Nat → Int32} (T : TxAt h b t n q) (g : ∀ j, j ≠ 2 → hI h' b j = hI h b j) : TxAt h' b t n q := by
  obtain ⟨t1, t2, t3, t4⟩ := T
  exact ⟨(g 3 (by decide)).trans t1, (g 4 (by decide)).trans t2, fun z => (g 5 (by decide)).trans (t3 z), (g 6 (by decide)).trans t4⟩
theorem TxS.cg {h h' : AH} {b n : Nat} {t : Nat → Int32} {S : Nat → Prop} (H : TxS h b n t) (f : Fr' h h' S) (h1 : ¬ S b) (h2 : ¬ S (b + 1)) : TxS h' b n t := H.fr f (f.2.2.2.2.1 b h1 1) h2
theorem nI_ge5 {n k : Nat} (hn : n < 2 ^ 31) (hk : k < 2 ^ 31) (v : Int32) (hv : v = nI k) : (v ≤ nI n) = (k ≤ n) := by
  rw [hv]
  exact nI_le_iff hk hn
set_option maxHeartbeats 2000000 in
theorem sp_readClause {d : Nat} {h : AH} {Q : Option Value → AH → Prop} (hd : 10 ≤ d) (a b n q c nr nw : Nat) (A : PC) (t : Nat → Int32) (hq : q ≤ n) (hc : c ≤ 40) (H : TxS h b n t) (T : TxAt h b t n q) (e2 : hI h b 2 = 0) (HH : HRd h a nr nw A) (dis : b + 2 ≤ a ∨ a + 6 ≤ b) (k : ∀ h', Fr' h h' (fun c => c = b ∨ (a ≤ c ∧ c ≤ a + 5)) → hI h' b 1 = hI h b 1 → hI h' b 2 = (hclF t n c q nr nw A).1 → TxAt h' b t n (hclF t n c q nr nw A).2.1 → HillAt h' a → ((hclF t n c q nr nw A).1 = 0 → HRd h' a (hclF t n c q nr nw A).2.2.1 (hclF t n c q nr nw A).2.2.2.1 (hclF t n c q nr nw A).2.2.2.2) → Q none h') : Calls d nX3_readClause [.ref a, .ref b, .int (nI c)] h (hN h) (hU h) Q := by
  obtain ⟨e, rfl⟩ : ∃ e, d = e + 1 := ⟨d - 1, by omega⟩
  have hn : n ≤ 400 := H.2.2.2.2.1
  obtain ⟨HA, ⟨i0, i1, i2⟩, ⟨b1, b2⟩, hr, hw⟩ := HH
  have hE := tkE_le (t := t) hq
  have q1 := nq_le (t := t) hq
  have q2 := nq_le (t := t) q1.2
  have q3 := nq_le (t := t) q2.2
  have r232 : ∀ (s : Prop) [Decidable s], hclF t n c q nr nw A = (rfF 0 q (if s then 4 else 0), q, nr, nw, A) → Reach e nX3_readClause (232, [.float 0, .ref b, .float 0, .float 0, .float 0], [.int (bI s)]) h (hN h) (hU h) Q := fun s _ eR => by
    rw [eR] at k
    refine wX3_readClause_232 (by omega) b _ ?_
    simp only [bI0, H.1, true_and]
    refine ⟨fun z => ?_, fun z => ?_⟩
    · rw [if_neg z] at k
      refine sp_refuse (by omega) b n q 0 t H T.1 (fun h1 f1 g1 g2 => ?_)
      rw [e2] at g2
      rw [rV_none, rt_v]
      exact ⟨f1.2.2.1, f1.2.2.2.1, k h1 (f1.mono (fun c z => Or.inl z)) (g1 1 (by decide)) g2 (T.cg g1) (HA.fr f1) (fun z => absurd z (rfF_ne (fa := 0) (q := q) (c := 0) (by omega) (by omega)))⟩
    · rw [if_pos (Decidable.not_not.mp z)] at k
      refine sp_refuse (by omega) b n q 4 t H T.1 (fun h1 f1 g1 g2 => ?_)
      rw [e2] at g2
      rw [rV_none, rt_v]
      exact ⟨f1.2.2.1, f1.2.2.2.1, k h1 (f1.mono (fun c z => Or.inl z)) (g1 1 (by decide)) g2 (T.cg g1) (HA.fr f1) (fun z => absurd z (rfF_ne (fa := 0) (q := q) (c := 4) (by omega) (by omega)))⟩
  have r202 : hclF t n c q nr nw A = (rfF 0 q (if isWd t n q 12 ∨ isWd t n q 0 ∨ isWd t n q 1 then 4 else 0), q, nr, nw, A) → Reach e nX3_readClause (202, [.float 0, .ref b, .float 0, .float 0, .float 0], []) h (hN h) (hU h) Q := fun eR => by
    have yes : (isWd t n q 12 ∨ isWd t n q 0 ∨ isWd t n q 1) → Reach e nX3_readClause (227, [.float 0, .ref b, .float 0, .float 0, .float 0], []) h (hN h) (hU h) Q := fun z => by
      refine wX3_readClause_227 (by omega) b ?_
      have := r232 True (by rw [eR, if_pos z, if_pos trivial])
      rw [bI_t trivial] at this
      exact this
    refine wX3_readClause_202 (by omega) b ?_
    simp only [H.1, true_and]
    refine sp_isWord (by omega) b n q 12 t (by decide) H T ?_
    simp only [rI_some, bI0, H.1, true_and]
    refine ⟨fun z => yes (Or.inl (Decidable.not_not.mp z)), fun z12 => ?_⟩
    refine sp_isWord (by omega) b n q 0 t (by decide) H T ?_
    simp only [rI_some, bI0, H.1, true_and]
    refine ⟨fun z => yes (Or.inr (Or.inl (Decidable.not_not.mp z))), fun z0 => ?_⟩
    refine sp_isWord (by omega) b n q 1 t (by decide) H T ?_
    simp only [rI_some, bI0]
    refine ⟨fun z1 => ?_, fun z => yes (Or.inr (Or.inr (Decidable.not_not.mp z)))⟩
    have := r232 False (by rw [eR, if_neg (fun z => z.elim z12 (fun z => z.elim z0 z1)), if_neg id])
    rw [bI_f id] at this
    exact this
  have n12 : ¬ (isWd t n q 12 ∧ c = 0) → ¬ (isWd t n q 0 ∧ (0 < c ∧ c < 40) ∧ nr < 5) → ¬ (isWd t n q 1 ∧ (0 < c ∧ c < 40) ∧ nw < 6) → hclF t n c q nr nw A = (rfF 0 q (if isWd t n q 12 ∨ isWd t n q 0 ∨ isWd t n q 1 then 4 else 0), q, nr, nw, A) := fun z1 z2 z3 => by
    unfold hclF
    rw [if_neg z1, if_neg z2, if_neg z3]
  have r116 : ¬ (isWd t n q 12 ∧ c = 0) → ¬ (isWd t n q 0 ∧ (0 < c ∧ c < 40) ∧ nr < 5) → Reach e nX3_readClause (116, [.ref a, .ref b, .float 0, .int (bI (0 < c ∧ c < 40)), .float 0], []) h (hN h) (hU h) Q := fun z1 z2 => by
    refine wX3_readClause_116 (by omega) a b _ ?_
    simp only [H.1, true_and]
    refine sp_isWord (by omega) b n q 1 t (by decide) H T ?_
    simp only [rI_some, bI0, H.1, HA.1, i2, true_and, nI_ge5 (show nw < 2 ^ 31 by omega) (show 6 < 2 ^ 31 by decide) 6 rfl]
    refine ⟨fun y => r202 (n12 z1 z2 (fun x => y x.1)), fun y => ⟨fun x => r202 (n12 z1 z2 (fun w => x w.2.1)), fun x => ⟨fun w => r202 (n12 z1 z2 (fun v => by omega)), fun w => ?_⟩⟩⟩
    have y := Decidable.not_not.mp y
    have x := Decidable.not_not.mp x
    have eR : hclF t n c q nr nw A = (nbF t n (nq t n (nq t n (nq t n q))) 1 9 (nbF t n (nq t n (nq t n q)) 1 50 (nbF t n (nq t n q) 1 99 0)), nq t n (nq t n (nq t n (nq t n q))), nr, nw + 1, setC (setC (setC A 3 nw (tkV t n (nq t n q))) 4 nw (tkV t n (nq t n (nq t n q)))) 5 nw (tkV t n (nq t n (nq t n (nq t n q))))) := by
      unfold hclF
      rw [if_neg z1, if_neg z2, if_pos ⟨y, x, by omega⟩]
    rw [eR] at k
    have w6 : nw < 6 := by omega
    clear eR r202 r232 n12 z1 z2 y x w
    refine sp_next (by omega) b n (tkE t n q) t H hE.2 T.2.2.2 (fun h1 f1 g1 g2 T1 => ?_)
    have H1 : TxS h1 b n t := H.fr f1 g1 (by omega)
    have A1 := HA.fr f1
    have o1 : ∀ c, a ≤ c → c ≤ a + 5 → ∀ j, hI h1 c j = hI h c j := fun c c1 c2 => f1.2.2.2.2.1 c (by omega)
    simp only [rV_none, H1.1, hiq_0 A1, hiq_1 A1, hiq_2 A1, hiq_3 A1, hiq_4 A1, hiq_5 A1, hiq_6 A1, hiq_7 A1, hiq_8 A1, hiq_9 A1, hiq_10 A1, o1 a (by omega) (by omega), i2, true_and]
    refine sp_number (by omega) b n (nq t n q) 1 99 t q1.2 H1 T1 (fun h2 v1 f2 g3 g4 T2 ev1 => ?_)
    have H2 : TxS h2 b n t := H1.fr f2 g3 (by omega)
    have A2 := A1.fr f2
    have fa : Fr' h2 (sI h2 (a + 3) nw v1) (fun c => c = a + 3) := Fr'.sI rfl
    have H3 := H2.cg fa (by omega) (by omega)
    have T3 : TxAt (sI h2 (a + 3) nw v1) b t n (nq t n (nq t n q)) := T2.cg (fun j _ => by rw [hI_sI, if_neg (by omega)])
    have o2 : ∀ c, a ≤ c → c ≤ a + 5 → ∀ j, hI h2 c j = hI h c j := fun c c1 c2 j => by rw [f2.2.2.2.2.1 c (by omega), o1 c c1 c2]
    simp only [rI_some, hiq_0 A2, hiq_1 A2, hiq_2 A2, hiq_3 A2, hiq_4 A2, hiq_5 A2, hiq_6 A2, hiq_7 A2, hiq_8 A2, hiq_9 A2, hiq_10 A2, hiq_0 A1, hiq_1 A1, hiq_2 A1, hiq_3 A1, hiq_4 A1, hiq_5 A1, hiq_6 A1, hiq_7 A1, hiq_8 A1, hiq_9 A1, hiq_10 A1, lH_eq, vp_in_nI (show nw < 6 by omega) (show 6 < 2 ^ 31 by omega), nI_clamp (show nw < 2 ^ 31 by omega), o1 a (by omega) (by omega), i2, true_and]
    have A3 := A2.fr fa
    have o3 : ∀ c, a ≤ c → c ≤ a + 5 → c ≠ a + 3 → ∀ j, hI (sI h2 (a + 3) nw v1) c j = hI h c j := fun c c1 c2 c3 j => by rw [hI_sI, if_neg c3, o2 c c1 c2]
    have w3 : ∀ j, hI (sI h2 (a + 3) nw v1) (a + 3) j = if j = nw then v1 else hI h (a + 3) j := fun j => by rw [hI_sI, if_pos rfl, o2 (a + 3) (by omega) (by omega)]
    have fb2 : hI (sI h2 (a + 3) nw v1) b 2 = nbF t n (nq t n q) 1 99 0 := by rw [hI_sI, if_neg (by omega), g4, g2, e2]
    have fb1 : hI (sI h2 (a + 3) nw v1) b 1 = hI h b 1 := by rw [hI_sI, if_neg (by omega), g3, g1]
    have F3 : Fr' h (sI h2 (a + 3) nw v1) (fun c => c = b ∨ (a ≤ c ∧ c ≤ a + 5)) := ((f1.trans f2).mono (fun c z => Or.inl z)).trans (Fr'.sI (Or.inr (by omega)))
    generalize hg3 : sI h2 (a + 3) nw v1 = h3 at *
    simp only [hiq_0 A3, hiq_1 A3, hiq_2 A3, hiq_3 A3, hiq_4 A3, hiq_5 A3, hiq_6 A3, hiq_7 A3, hiq_8 A3, hiq_9 A3, hiq_10 A3, H3.1, o3 a (by omega) (by omega) (by omega), i2, true_and]
    refine sp_number (by omega) b n (nq t n (nq t n q)) 1 50 t q2.2 H3 T3 (fun h4 v2 f4 g5 g6 T4 ev2 => ?_)
    have H4 : TxS h4 b n t := H3.fr f4 g5 (by omega)
    have A4 := A3.fr f4
    have fb : Fr' h4 (sI h4 (a + 4) nw v2) (fun c => c = a + 4) := Fr'.sI rfl
    have H5 := H4.cg fb (by omega) (by omega)
    have T5 : TxAt (sI h4 (a + 4) nw v2) b t n (nq t n (nq t n (nq t n q))) := T4.cg (fun j _ => by rw [hI_sI, if_neg (by omega)])
    have o4 : ∀ c, a ≤ c → c ≤ a + 5 → ∀ j, hI h4 c j = hI h3 c j := fun c c1 c2 => f4.2.2.2.2.1 c (by omega)
    simp only [rI_some, hiq_0 A4, hiq_1 A4, hiq_2 A4, hiq_3 A4, hiq_4 A4, hiq_5 A4, hiq_6 A4, hiq_7 A4, hiq_8 A4, hiq_9 A4, hiq_10 A4, lH_eq, vp_in_nI (show nw < 6 by omega) (show 6 < 2 ^ 31 by omega), nI_clamp (show nw < 2 ^ 31 by omega), true_and]
    have A5 := A4.fr fb
    have o5 : ∀ c, a ≤ c → c ≤ a + 5 → c ≠ a + 3 → c ≠ a + 4 → ∀ j, hI (sI h4 (a + 4) nw v2) c j = hI h c j := fun c c1 c2 c3 c4 j => by rw [hI_sI, if_neg c4, o4 c c1 c2, o3 c c1 c2 c3]
    have w5 : ∀ j, hI (sI h4 (a + 4) nw v2) (a + 3) j = if j = nw then v1 else hI h (a + 3) j := fun j => by rw [hI_sI, if_neg (by omega), o4 (a + 3) (by omega) (by omega), w3]
    have x5 : ∀ j, hI (sI h4 (a + 4) nw v2) (a + 4) j = if j = nw then v2 else hI h (a + 4) j := fun j => by rw [hI_sI, if_pos rfl, o4 (a + 4) (by omega) (by omega), o3 (a + 4) (by omega) (by omega) (by omega)]
    have fc2 : hI (sI h4 (a + 4) nw v2) b 2 = nbF t n (nq t n (nq t n q)) 1 50 (nbF t n (nq t n q) 1 99 0) := by rw [hI_sI, if_neg (by omega), g6, fb2]
    have fc1 : hI (sI h4 (a + 4) nw v2) b 1 = hI h b 1 := by rw [hI_sI, if_neg (by omega), g5, fb1]
    have F5 : Fr' h (sI h4 (a + 4) nw v2) (fun c => c = b ∨ (a ≤ c ∧ c ≤ a + 5)) := (F3.trans (f4.mono (fun c z => Or.inl z))).trans (Fr'.sI (Or.inr (by omega)))
    generalize hg5 : sI h4 (a + 4) nw v2 = h5 at *
    simp only [hiq_0 A5, hiq_1 A5, hiq_2 A5, hiq_3 A5, hiq_4 A5, hiq_5 A5, hiq_6 A5, hiq_7 A5, hiq_8 A5, hiq_9 A5, hiq_10 A5, H5.1, o5 a (by omega) (by omega) (by omega) (by omega), i2, true_and]
    refine sp_number (by omega) b n (nq t n (nq t n (nq t n q))) 1 9 t q3.2 H5 T5 (fun h6 v3 f6 g7 g8 T6 ev3 => ?_)
    have A6 := A5.fr f6
    have o6 : ∀ c, a ≤ c → c ≤ a + 5 → ∀ j, hI h6 c j = hI h5 c j := fun c c1 c2 => f6.2.2.2.2.1 c (by omega)
    simp only [rI_some, hiq_0 A6, hiq_1 A6, hiq_2 A6, hiq_3 A6, hiq_4 A6, hiq_5 A6, hiq_6 A6, hiq_7 A6, hiq_8 A6, hiq_9 A6, hiq_10 A6, lH_eq, vp_in_nI (show nw < 6 by omega) (show 6 < 2 ^ 31 by omega), nI_clamp (show nw < 2 ^ 31 by omega), true_and, hS_sI, hI_sI, show (a = a + 5) = False from eq_false (by omega), if_false, o6 a (by omega) (by omega), o5 a (by omega) (by omega) (by omega) (by omega), i2, nI_1, rt_v, hN_sI, hU_sI]
    have F8 : Fr' h (sI (sI h6 (a + 5) nw v3) a 2 (nI (nw + 1))) (fun c => c = b ∨ (a ≤ c ∧ c ≤ a + 5)) := ((F5.trans (f6.mono (fun c z => Or.inl z))).trans (Fr'.sI (Or.inr (by omega)))).trans (Fr'.sI (Or.inr (by omega)))
    have z8 : ∀ c, a ≤ c → c ≤ a + 5 → ∀ j, hI (sI (sI h6 (a + 5) nw v3) a 2 (nI (nw + 1))) c j = if c = a ∧ j = 2 then nI (nw + 1) else if c = a + 5 ∧ j = nw then v3 else hI h5 c j := fun c c1 c2 j => by
      simp only [hI_sI, o6 c c1 c2]
      by_cases u : c = a
      · subst u
        simp only [true_and, if_true, show (c = c + 5) = False from eq_false (by omega), if_false, false_and]
      · simp only [u, false_and, if_false]
        by_cases w : c = a + 5
        · simp only [w, true_and, if_true]
        · simp only [w, false_and, if_false]
    refine ⟨F8.2.2.1, F8.2.2.2.1, k _ F8 ?_ ?_ (T6.cg (fun j _ => ?_)) (HA.fr F8) (fun z => ?_)⟩
    · rw [hI_sI, if_neg (by omega), hI_sI, if_neg (by omega), g7, fc1]
    · rw [hI_sI, if_neg (by omega), hI_sI, if_neg (by omega), g8, fc2]
    · rw [hI_sI, if_neg (by omega), hI_sI, if_neg (by omega)]
    · obtain ⟨za, zb, -, -⟩ := nbF_0 (by omega) z
      obtain ⟨zc, zd, -, -⟩ := nbF_0 (by omega) za
      obtain ⟨-, ze, -, -⟩ := nbF_0 (by omega) zc
      have v1e := ev1 ze
      have v2e := ev2 zd
      have v3e := ev3 zb
      refine ⟨HA.fr F8, ⟨?_, ?_, ?_⟩, ⟨b1, show nw + 1 ≤ 6 from by omega⟩, fun j hj => ⟨?_, ?_⟩, fun j (hj : j < nw + 1) => ⟨?_, ?_, ?_⟩⟩
      · rw [z8 a (by omega) (by omega), if_neg (by omega), if_neg (by omega), o5 a (by omega) (by omega) (by omega) (by omega), i0]
        simp [setC]
      · rw [z8 a (by omega) (by omega), if_neg (by omega), if_neg (by omega), o5 a (by omega) (by omega) (by omega) (by omega), i1]
      · rw [z8 a (by omega) (by omega), if_pos ⟨rfl, rfl⟩]
      · rw [z8 (a + 1) (by omega) (by omega), if_neg (by omega), if_neg (by omega), o5 (a + 1) (by omega) (by omega) (by omega) (by omega), (hr j hj).1]
        simp [setC]
      · rw [z8 (a + 2) (by omega) (by omega), if_neg (by omega), if_neg (by omega), o5 (a + 2) (by omega) (by omega) (by omega) (by omega), (hr j hj).2]
        simp [setC]
      · rw [z8 (a + 3) (by omega) (by omega), if_neg (by omega), if_neg (by omega), w5]
        by_cases u : j = nw
        · simp [setC, u, v1e]
        · rw [if_neg u, (hw j (by omega)).1]
          simp [setC, u]
      · rw [z8 (a + 4) (by omega) (by omega), if_neg (by omega), if_neg (by omega), x5]
        by_cases u : j = nw
        · simp [setC, u, v2e]
        · rw [if_neg u, (hw j (by omega)).2.1]
          simp [setC, u]
      · rw [z8 (a + 5) (by omega) (by omega), if_neg (by omega)]
        by_cases u : j = nw
        · rw [if_pos ⟨rfl, u⟩]
          simp [setC, u, v3e]
        · rw [if_neg (fun y => u y.2), o5 (a + 5) (by omega) (by omega) (by omega) (by omega), (hw j (by omega)).2.2]
          simp [setC, u]
  have r47 : ¬ (isWd t n q 12 ∧ c = 0) → Reach e nX3_readClause (47, [.ref a, .ref b, .float 0, .int (bI (0 < c ∧ c < 40)), .float 0], []) h (hN h) (hU h) Q := fun z1 => by
    refine wX3_readClause_47 (by omega) a b _ ?_
    simp only [H.1, true_and]
    refine sp_isWord (by omega) b n q 0 t (by decide) H T ?_
    simp only [rI_some, bI0, H.1, HA.1, i1, true_and, nI_ge5 (show nr < 2 ^ 31 by omega) (show 5 < 2 ^ 31 by decide) 5 rfl]
    refine ⟨fun y => r116 z1 (fun x => y x.1), fun y => ⟨fun x => r116 z1 (fun w => x w.2.1), fun x => ⟨fun w => r116 z1 (fun v => by omega), fun w => ?_⟩⟩⟩
    have y := Decidable.not_not.mp y
    have x := Decidable.not_not.mp x
    have eR : hclF t n c q nr nw A = (nbF t n (nq t n (nq t n q)) 0 40 (nbF t n (nq t n q) 1 20 0), nq t n (nq t n (nq t n q)), nr + 1, nw, setC (setC A 1 nr (tkV t n (nq t n q))) 2 nr (tkV t n (nq t n (nq t n q)))) := by
      unfold hclF
      rw [if_neg z1, if_pos ⟨y, x, by omega⟩]
    rw [eR] at k
    have w6 : nr < 5 := by omega
    clear eR r202 r232 n12 r116 z1 y x w
    refine sp_next (by omega) b n (tkE t n q) t H hE.2 T.2.2.2 (fun h1 f1 g1 g2 T1 => ?_)
    have H1 : TxS h1 b n t := H.fr f1 g1 (by omega)
    have A1 := HA.fr f1
    have o1 : ∀ c, a ≤ c → c ≤ a + 5 → ∀ j, hI h1 c j = hI h c j := fun c c1 c2 => f1.2.2.2.2.1 c (by omega)
    simp only [rV_none, H1.1, hiq_0 A1, hiq_1 A1, hiq_2 A1, hiq_3 A1, hiq_4 A1, hiq_5 A1, hiq_6 A1, hiq_7 A1, hiq_8 A1, hiq_9 A1, hiq_10 A1, o1 a (by omega) (by omega), i1, true_and]
    refine sp_number (by omega) b n (nq t n q) 1 20 t q1.2 H1 T1 (fun h2 v1 f2 g3 g4 T2 ev1 => ?_)
    have H2 : TxS h2 b n t := H1.fr f2 g3 (by omega)
    have A2 := A1.fr f2
    have fa : Fr' h2 (sI h2 (a + 1) nr v1) (fun c => c = a + 1) := Fr'.sI rfl
    have H3 := H2.cg fa (by omega) (by omega)
    have T3 : TxAt (sI h2 (a + 1) nr v1) b t n (nq t n (nq t n q)) := T2.cg (fun j _ => by rw [hI_sI, if_neg (by omega)])
    have o2 : ∀ c, a ≤ c → c ≤ a + 5 → ∀ j, hI h2 c j = hI h c j := fun c c1 c2 j => by rw [f2.2.2.2.2.1 c (by omega), o1 c c1 c2]
    simp only [rI_some, hiq_0 A2, hiq_1 A2, hiq_2 A2, hiq_3 A2, hiq_4 A2, hiq_5 A2, hiq_6 A2, hiq_7 A2, hiq_8 A2, hiq_9 A2, hiq_10 A2, hiq_0 A1, hiq_1 A1, hiq_2 A1, hiq_3 A1, hiq_4 A1, hiq_5 A1, hiq_6 A1, hiq_7 A1, hiq_8 A1, hiq_9 A1, hiq_10 A1, lH_eq, vp_in_nI (show nr < 5 by omega) (show 5 < 2 ^ 31 by omega), nI_clamp (show nr < 2 ^ 31 by omega), o1 a (by omega) (by omega), i1, true_and]
    have A3 := A2.fr fa
    have o3 : ∀ c, a ≤ c → c ≤ a + 5 → c ≠ a + 1 → ∀ j, hI (sI h2 (a + 1) nr v1) c j = hI h c j := fun c c1 c2 c3 j => by rw [hI_sI, if_neg c3, o2 c c1 c2]
    have w3 : ∀ j, hI (sI h2 (a + 1) nr v1) (a + 1) j = if j = nr then v1 else hI h (a + 1) j := fun j => by rw [hI_sI, if_pos rfl, o2 (a + 1) (by omega) (by omega)]
    have fb2 : hI (sI h2 (a + 1) nr v1) b 2 = nbF t n (nq t n q) 1 20 0 := by rw [hI_sI, if_neg (by omega), g4, g2, e2]
    have fb1 : hI (sI h2 (a + 1) nr v1) b 1 = hI h b 1 := by rw [hI_sI, if_neg (by omega), g3, g1]
    have F3 : Fr' h (sI h2 (a + 1) nr v1) (fun c => c = b ∨ (a ≤ c ∧ c ≤ a + 5)) := ((f1.trans f2).mono (fun c z => Or.inl z)).trans (Fr'.sI (Or.inr (by omega)))
    generalize hg3 : sI h2 (a + 1) nr v1 = h3 at *
    simp only [hiq_0 A3, hiq_1 A3, hiq_2 A3, hiq_3 A3, hiq_4 A3, hiq_5 A3, hiq_6 A3, hiq_7 A3, hiq_8 A3, hiq_9 A3, hiq_10 A3, H3.1, o3 a (by omega) (by omega) (by omega), i1, true_and]
    refine sp_number (by omega) b n (nq t n (nq t n q)) 0 40 t q2.2 H3 T3 (fun h6 v3 f6 g7 g8 T6 ev3 => ?_)
    have A6 := A3.fr f6
    have o6 : ∀ c, a ≤ c → c ≤ a + 5 → ∀ j, hI h6 c j = hI h3 c j := fun c c1 c2 => f6.2.2.2.2.1 c (by omega)
    simp only [rI_some, hiq_0 A6, hiq_1 A6, hiq_2 A6, hiq_3 A6, hiq_4 A6, hiq_5 A6, hiq_6 A6, hiq_7 A6, hiq_8 A6, hiq_9 A6, hiq_10 A6, lH_eq, vp_in_nI (show nr < 5 by omega) (show 5 < 2 ^ 31 by omega), nI_clamp (show nr < 2 ^ 31 by omega), true_and, hS_sI, hI_sI, show (a = a + 2) = False from eq_false (by omega), if_false, o6 a (by omega) (by omega), o3 a (by omega) (by omega) (by omega), i1, nI_1, rt_v, hN_sI, hU_sI]
    have F8 : Fr' h (sI (sI h6 (a + 2) nr v3) a 1 (nI (nr + 1))) (fun c => c = b ∨ (a ≤ c ∧ c ≤ a + 5)) := ((F3.trans (f6.mono (fun c z => Or.inl z))).trans (Fr'.sI (Or.inr (by omega)))).trans (Fr'.sI (Or.inr (by omega)))
    have z8 : ∀ c, a ≤ c → c ≤ a + 5 → ∀ j, hI (sI (sI h6 (a + 2) nr v3) a 1 (nI (nr + 1))) c j = if c = a ∧ j = 1 then nI (nr + 1) else if c = a + 2 ∧ j = nr then v3 else hI h3 c j := fun c c1 c2 j => by
      simp only [hI_sI, o6 c c1 c2]
      by_cases u : c = a
      · subst u
        simp only [true_and, if_true, show (c = c + 2) = False from eq_false (by omega), if_false, false_and]
      · simp only [u, false_and, if_false]
        by_cases w : c = a + 2
        · simp only [w, true_and, if_true]
        · simp only [w, false_and, if_false]
    refine ⟨F8.2.2.1, F8.2.2.2.1, k _ F8 ?_ ?_ (T6.cg (fun j _ => ?_)) (HA.fr F8) (fun z => ?_)⟩
    · rw [hI_sI, if_neg (by omega), hI_sI, if_neg (by omega), g7, fb1]
    · rw [hI_sI, if_neg (by omega), hI_sI, if_neg (by omega), g8, fb2]
    · rw [hI_sI, if_neg (by omega), hI_sI, if_neg (by omega)]
    · obtain ⟨za, zb, -, -⟩ := nbF_0 (by omega) z
      obtain ⟨-, ze, -, -⟩ := nbF_0 (by omega) za
      have v1e := ev1 ze
      have v3e := ev3 zb
      refine ⟨HA.fr F8, ⟨?_, ?_, ?_⟩, ⟨show nr + 1 ≤ 5 from by omega, b2⟩, fun j (hj : j < nr + 1) => ⟨?_, ?_⟩, fun j hj => ⟨?_, ?_, ?_⟩⟩
      · rw [z8 a (by omega) (by omega), if_neg (by omega), if_neg (by omega), o3 a (by omega) (by omega) (by omega), i0]
        simp [setC]
      · rw [z8 a (by omega) (by omega), if_pos ⟨rfl, rfl⟩]
      · rw [z8 a (by omega) (by omega), if_neg (by omega), if_neg (by omega), o3 a (by omega) (by omega) (by omega), i2]
      · rw [z8 (a + 1) (by omega) (by omega), if_neg (by omega), if_neg (by omega), w3]
        by_cases u : j = nr
        · simp [setC, u, v1e]
        · rw [if_neg u, (hr j (by omega)).1]
          simp [setC, u]
      · rw [z8 (a + 2) (by omega) (by omega), if_neg (by omega)]
        by_cases u : j = nr
        · rw [if_pos ⟨rfl, u⟩]
          simp [setC, u, v3e]
        · rw [if_neg (fun y => u y.2), o3 (a + 2) (by omega) (by omega) (by omega), (hr j (by omega)).2]
          simp [setC, u]
      · rw [z8 (a + 3) (by omega) (by omega), if_neg (by omega), if_neg (by omega), o3 (a + 3) (by omega) (by omega) (by omega), (hw j hj).1]
        simp [setC]
      · rw [z8 (a + 4) (by omega) (by omega), if_neg (by omega), if_neg (by omega), o3 (a + 4) (by omega) (by omega) (by omega), (hw j hj).2.1]
        simp [setC]
      · rw [z8 (a + 5) (by omega) (by omega), if_neg (by omega), if_neg (by omega), o3 (a + 5) (by omega) (by omega) (by omega), (hw j hj).2.2]
        simp [setC]
  have r15 : Reach e nX3_readClause (15, [.ref a, .ref b, .int (nI c), .float 0, .float 0], [.int (bI (0 < c ∧ c < 40))]) h (hN h) (hU h) Q := by
    refine wX3_readClause_15 (by omega) a b _ _ ?_
    simp only [H.1, true_and]
    refine sp_isWord (by omega) b n q 12 t (by decide) H T ?_
    simp only [rI_some, bI0, H.1, true_and, show (nI c = (0 : Int32)) = (c = 0) from nI_eq_iff (b := 0) (by omega) (by decide)]
    refine ⟨fun y => r47 (fun x => y x.1), fun y => ⟨fun x => r47 (fun w => x w.2), fun x => ?_⟩⟩
    have y := Decidable.not_not.mp y
    have eR : hclF t n c q nr nw A = (nbF t n (nq t n q) 1 60 0, nq t n (nq t n q), nr, nw, setC A 0 0 (tkV t n (nq t n q))) := by
      unfold hclF
      rw [if_pos ⟨y, x⟩]
    rw [eR] at k
    clear eR r202 r232 n12 r116 r47 y x
    refine sp_next (by omega) b n (tkE t n q) t H hE.2 T.2.2.2 (fun h1 f1 g1 g2 T1 => ?_)
    have H1 : TxS h1 b n t := H.fr f1 g1 (by omega)
    have o1 : ∀ c, a ≤ c → c ≤ a + 5 → ∀ j, hI h1 c j = hI h c j := fun c c1 c2 => f1.2.2.2.2.1 c (by omega)
    simp only [rV_none, H1.1, true_and]
    refine sp_number (by omega) b n (nq t n q) 1 60 t q1.2 H1 T1 (fun h2 v1 f2 g3 g4 T2 ev1 => ?_)
    have A2 := (HA.fr f1).fr f2
    have o2 : ∀ c, a ≤ c → c ≤ a + 5 → ∀ j, hI h2 c j = hI h c j := fun c c1 c2 j => by rw [f2.2.2.2.2.1 c (by omega), o1 c c1 c2]
    simp only [rI_some, A2.1, lH_eq, true_and, rt_v, hN_sI, hU_sI]
    have F8 : Fr' h (sI h2 a 0 v1) (fun c => c = b ∨ (a ≤ c ∧ c ≤ a + 5)) := ((f1.trans f2).mono (fun c z => Or.inl z)).trans (Fr'.sI (Or.inr (by omega)))
    have z8 : ∀ c, a ≤ c → c ≤ a + 5 → ∀ j, hI (sI h2 a 0 v1) c j = if c = a ∧ j = 0 then v1 else hI h c j := fun c c1 c2 j => by
      simp only [hI_sI, o2 c c1 c2]
      by_cases u : c = a
      · simp only [u, true_and, if_true]
      · simp only [u, false_and, if_false]
    refine ⟨F8.2.2.1, F8.2.2.2.1, k _ F8 ?_ ?_ (T2.cg (fun j _ => ?_)) (HA.fr F8) (fun z => ?_)⟩
    · rw [hI_sI, if_neg (by omega), g3, g1]
    · rw [hI_sI, if_neg (by omega), g4, g2, e2]
    · rw [hI_sI, if_neg (by omega)]
    · obtain ⟨-, zb, -, -⟩ := nbF_0 (by omega) z
      have v1e := ev1 zb
      refine ⟨HA.fr F8, ⟨?_, ?_, ?_⟩, ⟨b1, b2⟩, fun j hj => ⟨?_, ?_⟩, fun j hj => ⟨?_, ?_, ?_⟩⟩
      · rw [z8 a (by omega) (by omega), if_pos ⟨rfl, rfl⟩]
        simp [setC, v1e]
      · rw [z8 a (by omega) (by omega), if_neg (by omega), i1]
      · rw [z8 a (by omega) (by omega), if_neg (by omega), i2]
      · rw [z8 (a + 1) (by omega) (by omega), if_neg (by omega), (hr j hj).1]
        simp [setC]
      · rw [z8 (a + 2) (by omega) (by omega), if_neg (by omega), (hr j hj).2]
        simp [setC]
      · rw [z8 (a + 3) (by omega) (by omega), if_neg (by omega), (hw j hj).1]
        simp [setC]
      · rw [z8 (a + 4) (by omega) (by omega), if_neg (by omega), (hw j hj).2.1]
        simp [setC]
      · rw [z8 (a + 5) (by omega) (by omega), if_neg (by omega), (hw j hj).2.2]
        simp [setC]
  refine wX3_readClause (by omega) a b (nI c) ?_
  simp only [show (nI c ≤ (0 : Int32)) = (c ≤ 0) from nI_le_iff (b := 0) (by omega) (by decide), show ((40 : Int32) ≤ nI c) = (40 ≤ c) from nI_le_iff (a := 40) (by decide) (by omega)]
  refine ⟨fun z => wX3_readClause_14 (by omega) a b (nI c) ?_, fun z => ⟨fun y => wX3_readClause_14 (by omega) a b (nI c) ?_, fun y => ?_⟩⟩
  · rw [bI_f (fun x => by omega)] at r15
    exact r15
  · rw [bI_f (fun x => by omega)] at r15
    exact r15
  · rw [bI_t ⟨by omega, by omega⟩] at r15
    exact r15
