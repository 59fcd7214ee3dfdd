/-! the class reads a hill, and takes it -/
def hrF (t : Nat → Int32) (n : Nat) : Nat → Nat → Nat → Nat → Nat → PC → Int32 × Nat × Nat × PC
  | 0, _, _, nr, nw, A => (0, nr, nw, A)
  | f + 1, c, q, nr, nw, A =>
    if (hclF t n c q nr nw A).1 ≠ 0 then ((hclF t n c q nr nw A).1, nr, nw, A)
    else if tkK t n (hclF t n c q nr nw A).2.1 = 3 ∧ tkV t n (hclF t n c q nr nw A).2.1 = 59 then hrF t n f (c + 1) (nq t n (hclF t n c q nr nw A).2.1) (hclF t n c q nr nw A).2.2.1 (hclF t n c q nr nw A).2.2.2.1 (hclF t n c q nr nw A).2.2.2.2
    else if tkK t n (hclF t n c q nr nw A).2.1 = 0 then (0, (hclF t n c q nr nw A).2.2.1, (hclF t n c q nr nw A).2.2.2.1, (hclF t n c q nr nw A).2.2.2.2)
    else (rfF 0 (hclF t n c q nr nw A).2.1 0, nr, nw, A)
theorem hclF_le {t : Nat → Int32} {n c q nr nw : Nat} {A : PC} (h : q ≤ n) : (hclF t n c q nr nw A).2.1 ≤ n := by
  have q1 := nq_le (t := t) h
  have q2 := nq_le (t := t) q1.2
  have q3 := nq_le (t := t) q2.2
  have q4 := nq_le (t := t) q3.2
  unfold hclF
  split
  · exact q2.2
  · split
    · exact q3.2
    · split
      · exact q4.2
      · exact h
theorem hr_out {d E1 E2 : Nat} {Q : Option Value → AH → Prop} {h : AH} (hd : 4 ≤ d) (a b n c : Nat) (fa : Int32) (t : Nat → Int32) (H : TxS h b n t) (e2 : hI h b 2 = fa) (n1 : hN h = E1) (n2 : hU h = E2) (k : Q (some (.int (bI (fa = 0)))) h) : Reach d nX3_read (8, [.ref a, .ref b, .int 0, .int (nI c)], []) h E1 E2 Q := by
  refine wX3_read_8 hd a b 0 (nI c) ?_
  simp only [H.1, e2, true_and, rt_i, rt_b0, rt_b1, rt_v, rt_l, rt_o, rt_a, rV_none, rI_some, rL_some, rR_some, rT_some, rt_bI]
  refine ⟨fun _ => ⟨fun z => ⟨n1, n2, ?_⟩, fun z => ⟨n1, n2, ?_⟩⟩, fun z => (by first | exact absurd rfl z | exact absurd trivial z)⟩
  · rwa [bI_f z] at k
  · rwa [bI_t z] at k
theorem hr_loop {d E1 E2 : Nat} {Q : Option Value → AH → Prop} (hd : 10 ≤ d) (a b n : Nat) (t : Nat → Int32) (dis : b + 2 ≤ a ∨ a + 6 ≤ b) : ∀ (f c q nr nw : Nat) (A : PC) (h : AH), c + f = 41 → q ≤ n → TxS h b n t → TxAt h b t n q → hI h b 2 = 0 → HRd h a nr nw A → hN h = E1 → hU h = E2 → (∀ h', Fr' h h' (fun c => c = b ∨ (a ≤ c ∧ c ≤ a + 5)) → hI h' b 1 = hI h b 1 → hI h' b 2 = (hrF t n f c q nr nw A).1 → HillAt h' a → ((hrF t n f c q nr nw A).1 = 0 → HRd h' a (hrF t n f c q nr nw A).2.1 (hrF t n f c q nr nw A).2.2.1 (hrF t n f c q nr nw A).2.2.2) → Q (some (.int (bI ((hrF t n f c q nr nw A).1 = 0)))) h') → Reach d nX3_read (8, [.ref a, .ref b, .int 1, .int (nI c)], []) h E1 E2 Q
  | 0, c, q, nr, nw, A, h, hc, hq, H, T, e2, HH, n1, n2, k => by
    have : c = 41 := by omega
    subst this
    have kk := k h (Fr'.refl _ _) rfl e2 HH.1 (fun _ => HH)
    have e0 : (hrF t n 0 41 q nr nw A).1 = 0 := rfl
    rw [bI_t e0] at kk
    refine wX3_read_8 (by omega) a b 1 (nI 41) ?_
    simp only [H.1, e2, true_and, rt_i, rt_b0, rt_b1, rt_v, rt_l, rt_o, rt_a, rV_none, rI_some, rL_some, rR_some, rT_some, rt_bI]
    exact ⟨fun z => absurd z (by decide), fun _ => ⟨fun _ => ⟨fun z => (by first | exact absurd rfl z | exact absurd trivial z), fun _ => ⟨n1, n2, kk⟩⟩, fun z => absurd (by decide) z⟩⟩
  | f + 1, c, q, nr, nw, A, h, hc, hq, H, T, e2, HH, n1, n2, k => by
    refine wX3_read_8 (by omega) a b 1 (nI c) ?_
    have c40 : ((40 : Int32) < nI c) = (40 < c) := nI_lt_iff (a := 40) (by decide) (by omega)
    simp only [HH.1.1, c40, true_and]
    refine ⟨fun z => absurd z (by decide), fun _ => ⟨fun z => absurd z (by omega), fun _ => ?_⟩⟩
    refine sp_readClause (by omega) a b n q c nr nw A t hq (by omega) H T e2 HH dis (fun h1 f1 g1 g2 T1 A1 HH1 => ?_)
    have H1 : TxS h1 b n t := H.fr f1 g1 (by omega)
    have hl := hclF_le (c := c) (nr := nr) (nw := nw) (A := A) (t := t) hq
    unfold hrF at k
    generalize hclF t n c q nr nw A = R at *
    have hK := tkK_le t n R.2.1
    have k0 : (hI h1 b 4 = (0 : Int32)) = (tkK t n R.2.1 = 0) := by rw [T1.2.1]; exact nI_eq_iff (b := 0) (by omega) (by decide)
    simp only [rV_none, H1.1, g2, k0, true_and, nI_1]
    refine ⟨fun z => ⟨fun _ => ?_, fun y => (by first | exact absurd rfl y | exact absurd trivial y)⟩, fun z => ?_⟩
    · rw [if_pos z] at k
      have kk : ∀ h2, Fr' h1 h2 (fun c => c = b) → hI h2 b 1 = hI h1 b 1 → hI h2 b 2 = R.1 → Reach d nX3_read (8, [.ref a, .ref b, .int 0, .int (nI (c + 1))], []) h2 E1 E2 Q := fun h2 f2 q1 q2 => by
        refine hr_out (by omega) a b n (c + 1) R.1 t (H1.fr f2 q1 (by omega)) q2 ((f2.2.2.1.trans f1.2.2.1).trans n1) ((f2.2.2.2.1.trans f1.2.2.2.1).trans n2) ?_
        exact k h2 (f1.trans (f2.mono (fun c z => Or.inl z))) (q1.trans g1) q2 (A1.fr f2) (fun y => absurd y z)
      refine ⟨fun _ => kk h1 (Fr'.refl _ _) rfl g2, fun y => ?_⟩
      refine sp_refuse (by omega) b n R.2.1 0 t H1 T1.1 (fun h2 f2 q1 q2 => ?_)
      rw [rV_none]
      refine kk h2 f2 (q1 1 (by decide)) ?_
      rw [q2, g2]
      exact if_neg z
    · have z' : ¬ R.1 ≠ 0 := fun y => y z
      rw [if_neg z'] at k
      refine sp_isSign (by omega) b n R.2.1 59 t H1 T1 ?_
      simp only [rI_some, bI0, H1.1, k0, true_and]
      refine ⟨fun y => ⟨fun _ => ?_, fun x => (by first | exact absurd rfl x | exact absurd trivial x)⟩, fun y => ⟨fun x => absurd x (by decide), fun _ => ?_⟩⟩
      · rw [if_neg y] at k
        refine ⟨fun x => ?_, fun x => ?_⟩
        · rw [if_pos x] at k
          exact hr_out (by omega) a b n (c + 1) 0 t H1 (g2.trans z) (f1.2.2.1.trans n1) (f1.2.2.2.1.trans n2) (k h1 f1 g1 (g2.trans z) A1 (fun _ => HH1 z))
        · rw [if_neg x] at k
          refine sp_refuse (by omega) b n R.2.1 0 t H1 T1.1 (fun h2 f2 q1 q2 => ?_)
          rw [rV_none]
          rw [g2, z] at q2
          exact hr_out (by omega) a b n (c + 1) _ t (H1.fr f2 (q1 1 (by decide)) (by omega)) q2 ((f2.2.2.1.trans f1.2.2.1).trans n1) ((f2.2.2.2.1.trans f1.2.2.2.1).trans n2) (k h2 (f1.trans (f2.mono (fun c z => Or.inl z))) ((q1 1 (by decide)).trans g1) q2 (A1.fr f2) (fun w => absurd w (rfF_ne (fa := 0) (q := R.2.1) (c := 0) (by have := H.2.2.2.2.1; omega) (by omega))))
      · rw [if_pos (Decidable.not_not.mp y)] at k
        have hE := tkE_le (t := t) hl
        have hN := nq_le (t := t) hl
        refine sp_next (by omega) b n (tkE t n R.2.1) t H1 hE.2 T1.2.2.2 (fun h2 f2 q1 q2 T2 => ?_)
        rw [rV_none]
        have HR := HH1 z
        have F2 : Fr' h h2 (fun c => c = b ∨ (a ≤ c ∧ c ≤ a + 5)) := f1.trans (f2.mono (fun c z => Or.inl z))
        have HR2 : HRd h2 a R.2.2.1 R.2.2.2.1 R.2.2.2.2 := by
          have o : ∀ c, a ≤ c → c ≤ a + 5 → ∀ j, hI h2 c j = hI h1 c j := fun c c1 c2 => f2.2.2.2.2.1 c (by omega)
          obtain ⟨x1, ⟨x2, x3, x4⟩, x5, x6, x7⟩ := HR
          refine ⟨x1.fr f2, ⟨?_, ?_, ?_⟩, x5, fun j hj => ?_, fun j hj => ?_⟩
          · rw [o a (by omega) (by omega)]; exact x2
          · rw [o a (by omega) (by omega)]; exact x3
          · rw [o a (by omega) (by omega)]; exact x4
          · rw [o (a + 1) (by omega) (by omega), o (a + 2) (by omega) (by omega)]; exact x6 j hj
          · rw [o (a + 3) (by omega) (by omega), o (a + 4) (by omega) (by omega), o (a + 5) (by omega) (by omega)]; exact x7 j hj
        exact hr_loop hd a b n t dis f (c + 1) (nq t n R.2.1) _ _ _ h2 (by omega) hN.2 (H1.fr f2 q1 (by omega)) T2 (by rw [q2, g2]; exact z) HR2 ((f2.2.2.1.trans f1.2.2.1).trans n1) ((f2.2.2.2.1.trans f1.2.2.2.1).trans n2) (fun h' f' p1 p2 p3 p4 => k h' (F2.trans f') (p1.trans (q1.trans g1)) p2 p3 p4)
def A1P : PC := fun _ _ => 1
def hlF (t : Nat → Int32) (n : Nat) : Int32 × Nat × Nat × PC := hrF t n 41 0 (sk t n 0) 0 0 A1P
theorem sp_hread {d : Nat} {h : AH} {Q : Option Value → AH → Prop} (hd : 11 ≤ d) (a b n : Nat) (t : Nat → Int32) (dis : b + 2 ≤ a ∨ a + 6 ≤ b) (H : TxS h b n t) (HH : HRd h a 0 0 A1P) (k : ∀ h', Fr' h h' (fun c => c = b ∨ (a ≤ c ∧ c ≤ a + 5)) → hI h' b 1 = hI h b 1 → hI h' b 2 = (hlF t n).1 → HillAt h' a → ((hlF t n).1 = 0 → HRd h' a (hlF t n).2.1 (hlF t n).2.2.1 (hlF t n).2.2.2) → Q (some (.int (bI ((hlF t n).1 = 0)))) h') : Calls d nX3_read [.ref a, .ref b] h (hN h) (hU h) Q := by
  obtain ⟨e, rfl⟩ : ∃ e, d = e + 1 := ⟨d - 1, by omega⟩
  refine wX3_read (by omega) a b ?_
  simp only [H.1, true_and]
  refine sp_start (by omega) b n t H (fun h1 f1 g1 g2 T1 => ?_)
  rw [rV_none]
  have o : ∀ c, a ≤ c → c ≤ a + 5 → ∀ j, hI h1 c j = hI h c j := fun c c1 c2 => f1.2.2.2.2.1 c (by omega)
  have HR2 : HRd h1 a 0 0 A1P := by
    obtain ⟨x1, ⟨x2, x3, x4⟩, x5, x6, x7⟩ := HH
    refine ⟨x1.fr f1, ⟨?_, ?_, ?_⟩, x5, fun j hj => absurd hj (Nat.not_lt_zero j), fun j hj => absurd hj (Nat.not_lt_zero j)⟩
    · rw [o a (by omega) (by omega)]; exact x2
    · rw [o a (by omega) (by omega)]; exact x3
    · rw [o a (by omega) (by omega)]; exact x4
  exact hr_loop (by omega) a b n t dis 41 0 (sk t n 0) 0 0 A1P h1 rfl (ru_le (by omega)) (H.fr f1 g1 (by omega)) T1 g2 HR2 f1.2.2.1 f1.2.2.2.1 (fun h' f' p1 p2 p3 p4 => k h' ((f1.mono (fun c z => Or.inl z)).trans f') (p1.trans g1) p2 p3 p4)
