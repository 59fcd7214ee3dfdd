/-! the class reads a rule -/
theorem bd_0 {f : Nat → Int32} {cl : List (List (Nat × Nat) × List (Nat × Nat))} (h : bdC f 0 0 cl) : f 0 = 0 := by
  cases cl with
  | nil => exact h
  | cons q r => exact h.1
def ruC (R : Int32 × List (List (Nat × Nat) × List (Nat × Nat))) : Nat := if R.1 = 0 then 3 else 0
def ruU (R : Int32 × List (List (Nat × Nat) × List (Nat × Nat))) : Nat := if R.1 = 0 then ruV R.2 else 0
def ruR (n : Nat) (R : Int32 × List (List (Nat × Nat) × List (Nat × Nat))) : Nat := if R.1 = 0 then n else 0
/-- what is shown at the end of a reading -/
def KR (h : AH) (r n : Nat) (t : Nat → Int32) (E1 E2 : Nat) (R : Int32 × List (List (Nat × Nat) × List (Nat × Nat))) (Q : Option Value → AH → Prop) : Prop := ∀ h', FrG h h' (RB r) → hN h' = E1 → hU h' = E2 → RdS h' r → TxS h' (r + 1) n t → hI h' (r + 5) 0 = 0 → hI h' (r + 1) 2 = R.1 → (R.1 = 0 → RulAt h' (hN h) R.2) → Q (some (.ref (ruR (hN h) R))) h'
theorem rd_fin {d E1 E2 : Nat} {Q : Option Value → AH → Prop} {h : AH} (hd : 5 ≤ d) (r n i : Nat) (t : Nat → Int32) (R : Int32 × List (List (Nat × Nat) × List (Nat × Nat))) (hi : i < 2 ^ 31) (hres : resOk R) (H : RdS h r) (HT : TxS h (r + 1) n t) (hr : r + 5 < hN h) (b0 : hI h (r + 5) 0 = 0) (ef : hI h (r + 1) 2 = R.1) (es : R.1 = 0 → hI h r 10 = 9 ∧ RdO h r (flK R.2) ∧ hI h r 9 = nI R.2.length ∧ bdC (hI h (r + 5)) 0 0 R.2) (hE1 : hN h + ruC R = E1) (hE2 : hU h + ruU R = E2) (k : KR h r n t E1 E2 R Q) : Reach d nX7_read (44, [.ref r, .int (nI i)], []) h E1 E2 Q := by
  by_cases z : R.1 = 0
  · obtain ⟨e10, eO, e9, eB⟩ := es z
    have ok : ruOk R.2 := by
      rcases hres with h | h
      · exact h.2
      · exact absurd z h.2
    have c1 : ruC R = 3 := if_pos z
    have c2 : ruU R = ruV R.2 := if_pos z
    have c3 : ruR (hN h) R = hN h := if_pos z
    rw [c1] at hE1
    rw [c2] at hE2
    have B := rd_build (E1 := E1) (E2 := E2) (d := d) (Q := Q) hd r R.2 ok H hr eO e9 eB hE1 hE2 (fun h' f m1 m2 RU => by
      have g : ∀ c, c < hN h → ∀ j, hI h' c j = hI h c j := fun c hc => (f.2.2.1 c hc (fun z => z)).2.1
      have gR : ∀ c, c < hN h → ∀ j, hR h' c j = hR h c j := fun c hc => (f.2.2.1 c hc (fun z => z)).1
      have H' : RdS h' r := by
        unfold RdS
        rw [f.2.1 r (by omega), f.2.1 (r + 3) (by omega), f.2.1 (r + 4) (by omega), f.2.1 (r + 5) (by omega), gR r (by omega), gR r (by omega), gR r (by omega), gR r (by omega)]
        exact H
      have HT' : TxS h' (r + 1) n t := by
        obtain ⟨a1, a2, a3, a4, a5, a6⟩ := HT
        exact ⟨by rw [f.2.1 _ (by omega)]; exact a1, by rw [gR _ (by omega)]; exact a2, by rw [f.2.1 _ (by omega)]; exact a3, by rw [g _ (by omega)]; exact a4, a5, fun i hi => by rw [g _ (by omega)]; exact a6 i hi⟩
      have := k h' (f.mono (fun c _ z => z.elim)) m1 m2 H' HT' (by rw [g _ (by omega)]; exact b0) (by rw [g _ (by omega)]; exact ef) (fun _ => RU)
      rw [c3] at this
      exact this)
    refine wX7_read_44 (by omega) r (nI i) ?_
    simp only [H.1, H.2.1, HT.1, ef, z, e10, true_and]
    have e99 : ((9 : Int32) = 9) = True := eq_true rfl
    have e00 : ((0 : Int32) = 0) = True := eq_true rfl
    simp only [e99, e00, not_true_eq_false, false_implies, true_implies, and_true, true_and]
    exact ⟨fun _ => B, fun _ => B⟩
  · have c1 : ruC R = 0 := if_neg z
    have c2 : ruU R = 0 := if_neg z
    have c3 : ruR (hN h) R = 0 := if_neg z
    rw [c1] at hE1
    rw [c2] at hE2
    have := k h (FrG.refl _ _) (by omega) (by omega) H HT b0 ef (fun y => absurd y z)
    rw [c3] at this
    refine wX7_read_44 (by omega) r (nI i) ?_
    simp only [H.1, H.2.1, HT.1, ef, true_and]
    have B : RtOf (some (.object "HeadHill$Rule")) E1 E2 Q (some (.ref 0)) h := ⟨by omega, by omega, this⟩
    exact ⟨fun _ => ⟨fun y => absurd y z, fun _ => B⟩, fun _ => ⟨fun _ => ⟨fun y => absurd y z, fun _ => B⟩, fun y => absurd y z⟩⟩
theorem rd_loop {d E1 E2 : Nat} {Q : Option Value → AH → Prop} (hd : 13 ≤ d) (r n : Nat) (t : Nat → Int32) (hn : n ≤ 400) (R : Int32 × List (List (Nat × Nat) × List (Nat × Nat))) (hres : resOk R) : ∀ (w i : Nat) (σ : MS) (h : AH), n - σ.1 ≤ w → i ≤ σ.1 → σ.1 ≤ n → mInv σ → rnM t n σ = R → r + 5 < hN h → RdS h r → RdIs h r σ → TxS h (r + 1) n t → TxAt h (r + 1) t n (sk t n σ.1) → hI h (r + 1) 2 = 0 → hN h + ruC R = E1 → hU h + ruU R = E2 → KR h r n t E1 E2 R Q → Reach d nX7_read (44, [.ref r, .int (nI i)], []) h E1 E2 Q := by
  intro w
  induction w with
  | zero =>
    intro i σ h hw hi hp I hrn hr H RD HT T e2 hE1 hE2 k
    obtain ⟨p, st, pile, pa, cl, su, s⟩ := σ
    have hp : p ≤ n := hp
    have hi : i ≤ p := hi
    have hw : n - p ≤ 0 := hw
    have i1 := I.2.1.1
    have b0 := bd_0 RD.2.2.2.2.1
    have e10 : hI h r 10 = nI st := RD.2.2.2.1.2.2
    have s9 : (nI st = (9 : Int32)) = (st = 9) := nI_eq_iff (b := 9) (by omega) (by decide)
    have i4 : ((400 : Int32) < nI i) = (400 < i) := nI_lt_iff (a := 400) (by decide) (by omega)
    have hE := tkE_le (t := t) (show sk t n p ≤ n from ru_le hp)
    refine wX7_read_44 (by omega) r (nI i) ?_
    simp only [H.1, H.2.1, HT.1, e2, e10, s9, i4, true_and]
    refine ⟨fun z => absurd z (by omega), fun _ => ⟨fun z => (by first | exact absurd rfl z | exact absurd trivial z), fun _ => ⟨fun z => absurd z (by omega), fun _ => ?_⟩⟩⟩
    refine sp_takeOne (by omega) r n p st pa pile cl su s t hn hp I H RD HT T e2 (fun h1 f1 a1 T1 X1 => ?_)
    have H1 := H.fr f1
    have HT1 : TxS h1 (r + 1) n t := HT.fr f1 a1.1 (by unfold RB; omega)
    simp only [rV_none, H1.1, H1.2.1, HT1.1, true_and, nI_1]
    refine sp_next (by omega) (r + 1) n (tkE t n (sk t n p)) t HT1 hE.2 T1.2.2.2 (fun h2 f2 q1 q2 T2 => ?_)
    rw [rV_none]
    have H2 := H1.fr f2
    have F2 : Fr' h h2 (RB r) := f1.trans (f2.mono (fun c z => by unfold RB; omega))
    have HT2 : TxS h2 (r + 1) n t := HT1.fr f2 q1 (by omega)
    have o2 : ∀ c, c ≠ r + 1 → ∀ j, hI h2 c j = hI h1 c j := fun c a => f2.2.2.2.2.1 c (by omega)
    cases em : mstep t n (p, st, pile, pa, cl, su, s) with
    | inl R' =>
      have eR : R' = R := by rw [← hrn, rnM_out (show (p, st, pile, pa, cl, su, s).1 ≤ n from hp) em]
      rw [em, eR] at X1
      refine rd_fin (by omega) r n (i + 1) t R (by omega) hres H2 HT2 (by rw [F2.2.2.1]; exact hr) (by rw [o2 (r + 5) (by omega), a1.2]; exact b0) (q2.trans X1.1) (fun z => ?_) (by rw [F2.2.2.1]; exact hE1) (by rw [F2.2.2.2.1]; exact hE2) (fun h' f' m1 m2 c1 c2 c3 c4 c5 => ?_)
      · obtain ⟨x1, x2, x3, x4⟩ := X1.2 z
        exact ⟨(o2 r (by omega) 10).trans x1, x2.cg (o2 r (by omega) 4) (o2 (r + 3) (by omega)), (o2 r (by omega) 9).trans x3, x4.cg (fun j _ => o2 (r + 5) (by omega) j)⟩
      · have := k h' ((FrG.of F2).trans f' (fun c _ z => z)) m1 m2 c1 c2 c3 c4 (by rw [← F2.2.2.1]; exact c5)
        rw [F2.2.2.1]
        exact this
    | inr σ' =>
      have lt := mstep_lt (show (p, st, pile, pa, cl, su, s).1 ≤ n from hp) em
      exact absurd lt.1 (by show ¬ p < σ'.1; have := lt.2; omega)
  | succ w ih =>
    intro i σ h hw hi hp I hrn hr H RD HT T e2 hE1 hE2 k
    obtain ⟨p, st, pile, pa, cl, su, s⟩ := σ
    have hp : p ≤ n := hp
    have hi : i ≤ p := hi
    have hw : n - p ≤ w + 1 := hw
    have i1 := I.2.1.1
    have b0 := bd_0 RD.2.2.2.2.1
    have e10 : hI h r 10 = nI st := RD.2.2.2.1.2.2
    have s9 : (nI st = (9 : Int32)) = (st = 9) := nI_eq_iff (b := 9) (by omega) (by decide)
    have i4 : ((400 : Int32) < nI i) = (400 < i) := nI_lt_iff (a := 400) (by decide) (by omega)
    have hE := tkE_le (t := t) (show sk t n p ≤ n from ru_le hp)
    refine wX7_read_44 (by omega) r (nI i) ?_
    simp only [H.1, H.2.1, HT.1, e2, e10, s9, i4, true_and]
    refine ⟨fun z => absurd z (by omega), fun _ => ⟨fun z => (by first | exact absurd rfl z | exact absurd trivial z), fun _ => ⟨fun z => absurd z (by omega), fun _ => ?_⟩⟩⟩
    refine sp_takeOne (by omega) r n p st pa pile cl su s t hn hp I H RD HT T e2 (fun h1 f1 a1 T1 X1 => ?_)
    have H1 := H.fr f1
    have HT1 : TxS h1 (r + 1) n t := HT.fr f1 a1.1 (by unfold RB; omega)
    simp only [rV_none, H1.1, H1.2.1, HT1.1, true_and, nI_1]
    refine sp_next (by omega) (r + 1) n (tkE t n (sk t n p)) t HT1 hE.2 T1.2.2.2 (fun h2 f2 q1 q2 T2 => ?_)
    rw [rV_none]
    have H2 := H1.fr f2
    have F2 : Fr' h h2 (RB r) := f1.trans (f2.mono (fun c z => by unfold RB; omega))
    have HT2 : TxS h2 (r + 1) n t := HT1.fr f2 q1 (by omega)
    have o2 : ∀ c, c ≠ r + 1 → ∀ j, hI h2 c j = hI h1 c j := fun c a => f2.2.2.2.2.1 c (by omega)
    have k2 : KR h2 r n t E1 E2 R Q := fun h' f' m1 m2 c1 c2 c3 c4 c5 => by
      have := k h' ((FrG.of F2).trans f' (fun c _ z => z)) m1 m2 c1 c2 c3 c4 (by rw [← F2.2.2.1]; exact c5)
      rw [F2.2.2.1]
      exact this
    cases em : mstep t n (p, st, pile, pa, cl, su, s) with
    | inl R' =>
      have eR : R' = R := by rw [← hrn, rnM_out (show (p, st, pile, pa, cl, su, s).1 ≤ n from hp) em]
      rw [em, eR] at X1
      refine rd_fin (by omega) r n (i + 1) t R (by omega) hres H2 HT2 (by rw [F2.2.2.1]; exact hr) (by rw [o2 (r + 5) (by omega), a1.2]; exact b0) (q2.trans X1.1) (fun z => ?_) (by rw [F2.2.2.1]; exact hE1) (by rw [F2.2.2.2.1]; exact hE2) k2
      obtain ⟨x1, x2, x3, x4⟩ := X1.2 z
      exact ⟨(o2 r (by omega) 10).trans x1, x2.cg (o2 r (by omega) 4) (o2 (r + 3) (by omega)), (o2 r (by omega) 9).trans x3, x4.cg (fun j _ => o2 (r + 5) (by omega) j)⟩
    | inr σ' =>
      have lt := mstep_lt (show (p, st, pile, pa, cl, su, s).1 ≤ n from hp) em
      have lt1 : p < σ'.1 := lt.1
      have ein := mstep_in em
      rw [em] at X1
      have RD2 : RdIs h2 r σ' := by
        obtain ⟨p', st', pile', pa', cl', su', s'⟩ := σ'
        obtain ⟨R1, R2, R3, ⟨R4, R5, R6⟩, R7, R8⟩ := X1.2
        exact ⟨R1.cg (o2 r (by omega) 5) (o2 (r + 4) (by omega)), R2.cg (o2 r (by omega) 6) (o2 r (by omega) 7), R3.cg (o2 r (by omega) 4) (o2 (r + 3) (by omega)), ⟨(o2 r (by omega) 8).trans R4, (o2 r (by omega) 9).trans R5, (o2 r (by omega) 10).trans R6⟩, R7.cg (fun j _ => o2 (r + 5) (by omega) j), fun z => by rw [o2 (r + 5) (by omega)]; exact R8 z⟩
      exact ih (i + 1) σ' h2 (by omega) (by omega) lt.2 (mstep_inv I (show (p, st, pile, pa, cl, su, s).1 ≤ n from hp) em) ((rnM_in (show (p, st, pile, pa, cl, su, s).1 ≤ n from hp) em).symm.trans hrn) (by rw [F2.2.2.1]; exact hr) H2 RD2 HT2 (by rw [ein.1]; exact T2) (q2.trans X1.1) (by rw [F2.2.2.1]; exact hE1) (by rw [F2.2.2.2.1]; exact hE2) k2
