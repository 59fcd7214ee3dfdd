/-! a test of the reference: after a fact -/
theorem dr_ok {kk : Nat} : ∀ {l : List Nat}, bOk l → bOk (drK kk l) ∧ dpt (drK kk l) ≤ dpt l ∧ (drK kk l).length ≤ l.length ∧ (∀ j r, drK kk l = j :: r → j ≠ kk)
  | [], _ => ⟨trivial, Nat.le_refl _, Nat.le_refl _, fun j r h => by cases h⟩
  | k :: l, h => by
    by_cases c : k = kk
    · have e : drK kk (k :: l) = drK kk l := by simp only [drK, if_pos c]
      rw [e]
      obtain ⟨a, b, c, d⟩ := dr_ok (kk := kk) h.2
      exact ⟨a, by rw [dpt_c]; omega, by simp; omega, d⟩
    · have e : drK kk (k :: l) = k :: l := by simp only [drK, if_neg c]
      rw [e]
      exact ⟨h, Nat.le_refl _, Nat.le_refl _, fun j r h => by cases h; exact c⟩
theorem dr_10 {l : List Nat} (h : bOk l) (h9 : ∀ j r, l = j :: r → j ≠ 9) : hdT (drK 10 l) ≤ 1 := by
  cases l with
  | nil => exact Nat.zero_le _
  | cons k r =>
    by_cases c : k = 10
    · have e : drK 10 (k :: r) = drK 10 r := by simp only [drK, if_pos c]
      rw [e]
      have h1 : hdT r ≤ 1 := by
        rcases h.1 with z | z | ⟨-, z⟩ | ⟨z, -⟩
        · omega
        · omega
        · exact z
        · omega
      cases r with
      | nil => exact Nat.zero_le _
      | cons i r' =>
        have : i ≠ 10 := fun z => by subst z; exact absurd (show tgO 10 ≤ 1 from h1) (by decide)
        have e : drK 10 (i :: r') = i :: r' := by simp only [drK, if_neg this]
        rw [e]
        exact h1
    · have e : drK 10 (k :: r) = k :: r := by simp only [drK, if_neg c]
      rw [e]
      rcases h.1 with z | z | ⟨z, -⟩ | ⟨z, -⟩
      · exact absurd z (h9 k r rfl)
      · subst z; exact Nat.zero_le _
      · exact absurd z c
      · subst z; exact Nat.le_refl _
theorem dr_11 {l : List Nat} (h : bOk l) (h1 : hdT l ≤ 1) : hdT (drK 11 l) = 0 := by
  cases l with
  | nil => rfl
  | cons k r =>
    by_cases c : k = 11
    · have e : drK 11 (k :: r) = drK 11 r := by simp only [drK, if_pos c]
      rw [e]
      have h1 : hdT r = 0 := by
        rcases h.1 with z | z | ⟨z, -⟩ | ⟨-, z⟩
        · omega
        · omega
        · omega
        · exact z
      cases r with
      | nil => rfl
      | cons i r' =>
        have : i ≠ 11 := fun z => by subst z; exact absurd (show tgO 11 = 0 from h1) (by decide)
        have e : drK 11 (i :: r') = i :: r' := by simp only [drK, if_neg this]
        rw [e]
        exact h1
    · have e : drK 11 (k :: r) = k :: r := by simp only [drK, if_neg c]
      rw [e]
      rcases h.1 with z | z | ⟨z, -⟩ | ⟨z, -⟩
      · subst z; exact absurd (show tgO 9 ≤ 1 from h1) (by decide)
      · subst z; rfl
      · subst z; exact absurd (show tgO 10 ≤ 1 from h1) (by decide)
      · exact absurd z c
theorem hd_0 {l : List Nat} (h : bOk l) (h0 : hdT l = 0) : l = [] ∨ ∃ r, l = 12 :: r := by
  cases l with
  | nil => exact Or.inl rfl
  | cons k r =>
    refine Or.inr ⟨r, ?_⟩
    rcases h.1 with z | z | ⟨z, -⟩ | ⟨z, -⟩
    · subst z; exact absurd (show tgO 9 = 0 from h0) (by decide)
    · rw [z]
    · subst z; exact absurd (show tgO 10 = 0 from h0) (by decide)
    · subst z; exact absurd (show tgO 11 = 0 from h0) (by decide)
def MFx (h : AH) (m n : Nat) (t : Nat → Int32) (fa : Int32) : Prop := MTp h m n t ∧ (∃ p, p ≤ n + 1 ∧ hI h m 22 = nI p) ∧ hI h m 23 = fa ∧ fa ≠ 0
theorem MFd.x {h : AH} {m n : Nat} {t : Nat → Int32} {fa : Int32} (H : MFd h m n t fa) : MFx h m n t fa := by
  obtain ⟨a, ⟨p, b, c⟩, d, e⟩ := H
  exact ⟨a, ⟨p, by omega, c⟩, d, e⟩
def BT (h : AH) (m n r : Nat) (t : Nat → Int32) (R : Int32 × List (List (Nat × Nat) × List (Nat × Nat))) (cl : List (List (Nat × Nat) × List (Nat × Nat))) (su : List (Nat × Nat)) : Prop := MFx h m n t R.1 ∨ ∃ p pa s, MM h m n r t (p, 8, [], pa, cl, su, s) ∧ sk t n p = p ∧ rnM t n (p, 8, [], pa, cl, su, s) = R ∧ hI h m 27 = nI 0 ∧ ¬ (tkO t n p = 10 ∨ tkO t n p = 11)
theorem tsF {d E1 E2 : Nat} {Q : Option Value → AH → Prop} {h : AH} (hd : 4 ≤ d) (m n : Nat) (v1 v2 : Int32) (t : Nat → Int32) (fa : Int32) (H : MFx h m n t fa) (n1 : hN h = E1) (n2 : hU h = E2) (k : Q none h) : Reach d nX12_test (9, [.ref m, .int v1, .int v2, .float 0, .float 0], []) h E1 E2 Q := by
  refine wX12_test_9 hd m v1 v2 ⟨fun _ => ?_, fun _ => ⟨by rw [mdq_0 H.1.1], fun _ => ?_, fun z => absurd (H.2.2.1.symm.trans z) H.2.2.2⟩⟩
  · rw [rt_v]; exact ⟨n1, n2, k⟩
  · rw [rt_v]; exact ⟨n1, n2, k⟩
theorem ts_stop {d E1 E2 : Nat} {Q : Option Value → AH → Prop} {h : AH} (hd : 4 ≤ d) (m : Nat) (v1 : Int32) (n1 : hN h = E1) (n2 : hU h = E2) (k : Q none h) : Reach d nX12_test (9, [.ref m, .int v1, .int 0, .float 0, .float 0], []) h E1 E2 Q := by
  refine wX12_test_9 hd m v1 0 ⟨fun _ => ?_, fun z => absurd rfl z⟩
  rw [rt_v]; exact ⟨n1, n2, k⟩
/-- the word and, or the word or -/
theorem m_join {h : AH} {m n r q w op th pa : Nat} {t : Nat → Int32} {R : Int32 × List (List (Nat × Nat) × List (Nat × Nat))} {pile : List Nat} {cl : List (List (Nat × Nat) × List (Nat × Nat))} {su s : List (Nat × Nat)} (H : MM h m n r t (q, 8, pile, pa, cl, su, s)) (hrn : rnM t n (q, 8, pile, pa, cl, su, s) = R) (hsk : sk t n q = q) (eO : tkO t n q = op) (hop : op = 10 ∨ op = 11) (eE : tkE t n q = q + w) (hth : tgO op - 1 = th) (hpi : hdT pile ≤ th) : q + w ≤ n ∧ mInv (q + w, 7, op :: pile, pa, cl, su, s) ∧ rnM t n (q + w, 7, op :: pile, pa, cl, su, s) = R := by
  have hp := H.2.1.2
  have hE := (tkE_le (t := t) hp).2
  have re := rst_hd hpi
  have hpn : (q, 8, pile, pa, cl, su, s).1 ≤ n := hp
  have em : mstep t n (q, 8, pile, pa, cl, su, s) = .inr (q + w, 7, op :: pile, pa, cl, su, s) := by
    have e1 : mstep t n (q, 8, pile, pa, cl, su, s) = mgo t n (sk t n q) 8 pile pa cl su s := rfl
    rw [e1, hsk]
    unfold mgo
    rw [eO, if_neg (fun z => absurd rfl z.2), if_neg (fun z => by omega), if_pos ⟨hop, Or.inr rfl⟩, hth, re.1, re.2, List.append_nil, eE]
  exact ⟨by omega, mstep_inv H.2.2.2.2.2.2 hpn em, (rnM_in hpn em).symm.trans hrn⟩
