/-! what hills and moments are -/
def hilOk (nr nw : Nat) (A : Nat → Nat → Int32) : Prop := nr ≤ 5 ∧ nw ≤ 6 ∧ (1 ≤ (A 0 0).toInt ∧ (A 0 0).toInt ≤ 60) ∧ (∀ j, j < nr → (1 ≤ (A 1 j).toInt ∧ (A 1 j).toInt ≤ 20) ∧ (0 ≤ (A 2 j).toInt ∧ (A 2 j).toInt ≤ 40)) ∧ (∀ j, j < nw → (1 ≤ (A 3 j).toInt ∧ (A 3 j).toInt ≤ 99) ∧ (1 ≤ (A 4 j).toInt ∧ (A 4 j).toInt ≤ 50) ∧ (1 ≤ (A 5 j).toInt ∧ (A 5 j).toInt ≤ 9))
def momOk (D : Int) (nr nw : Nat) (M : Nat → Nat → Int32) : Prop := (0 ≤ (M 0 0).toInt ∧ (M 0 0).toInt ≤ D) ∧ (∀ j, j < nr → (1 ≤ (M 1 j).toInt ∧ (M 1 j).toInt ≤ 20) ∧ (-99 ≤ (M 2 j).toInt ∧ (M 2 j).toInt ≤ 99) ∧ (0 ≤ (M 3 j).toInt ∧ (M 3 j).toInt ≤ 9999)) ∧ (∀ j, j < nw → 1 ≤ (M 4 j).toInt ∧ (M 4 j).toInt ≤ 99)
theorem pos_of {x : Int32} (h : 1 ≤ x.toInt) : 0 < x := by
  rw [Int32.lt_iff_toInt_lt, t_0]; omega
theorem gt100 {x : Int32} (h : -99 ≤ x.toInt) : -100 < x := by
  rw [Int32.lt_iff_toInt_lt, show (-100 : Int32).toInt = -100 by decide]; omega
def MHil (h : AH) (m nr nw : Nat) (A : Nat → Nat → Int32) : Prop := hI h (m + 1) 1 = nI nr ∧ hI h (m + 1) 2 = nI nw ∧ eqA nw (rA h m) A ∧ (∀ j, j < nr → rA h m 1 j = A 1 j ∧ rA h m 2 j = A 2 j) ∧ (∀ j, j < nw → rA h m 3 j = A 3 j)
def MOrd (h : AH) (m nr : Nat) (od : Nat → Option Int32) : Prop := ∀ j, j < nr → hI h (m + 32) j = odI (-5) (od j) ∧ od j ≠ some (-5)
theorem m_goes {d : Nat} {h : AH} {Q : Option Value → AH → Prop} (hd : 11 ≤ d) (m nr nw : Nat) (R : Option (List (List (Nat × Nat) × List (Nat × Nat)))) (od : Nat → Option Int32) (A M : Nat → Nat → Int32) {D : Int} (H : ModAt h m) (HH : MHil h m nr nw A) (HM : eqM nr nw (rM h m) M) (HF : MFor h m R) (hod : MOrd h m nr od) (hA : hilOk nr nw A) (hM : momOk D nr nw M) (k : ∀ h', Fr' h h' (fun b => b = m + 1 ∨ b = m + 2 ∨ b = m + 3 ∨ b = m + 6 ∨ b = m + 29 ∨ b = m + 30 ∨ b = m + 31) → (∀ j, j ≠ 3 → hI h' (m + 1) j = hI h (m + 1) j) → eqM nr nw (rM h' m) (paF R A nr nw od M) → Q (some (.int (biF (gtF R A nr nw od M) nw))) h') : Calls d nX12_goes [.ref m] h (hN h) (hU h) Q := by
  obtain ⟨e, rfl⟩ : ∃ e, d = e + 1 := ⟨d - 1, by omega⟩
  obtain ⟨hr5, hw6, hA0, hA1, hA2⟩ := hA
  obtain ⟨hM0, hM1, hM2⟩ := hM
  obtain ⟨hn, hn2, eA, eA1, eA2⟩ := HH
  have HMM := HM
  obtain ⟨m0, m1, m2⟩ := HM
  have hfe : 0 < hI h (m + 1) 0 := by
    have : hI h (m + 1) 0 = A 0 0 := eA.1
    rw [this]; exact pos_of hA0.1
  refine wX12_goes (by omega) m (mg_aims (h0 := h) (by omega) m nr nw R od H HF hn hn2 hr5 hw6 (fun j hj => ?_) hfe (fun j hj => ?_) (fun j hj => ?_) hod (fun h1 f1 q1 => ?_) nr 0 h (by omega) (Fr'.refl _ _) (fun j hj => absurd hj (Nat.not_lt_zero j)))
  · have : hI h (m + 4) j = M 1 j := (m1 j hj).1
    rw [this]; exact pos_of (hM1 j hj).1.1
  · have : hI h (m + 2) j = M 2 j := (m1 j hj).2.1
    rw [this]; exact gt100 (hM1 j hj).2.1.1
  · have : hI h (m + 8) j = A 5 j := (eA.2 j hj).2
    rw [this]; exact pos_of (hA2 j hj).2.2.1
  have gI : ∀ x, ¬ (x = m + 29 ∨ x = m + 30 ∨ x = m + 31) → hI h1 x = hI h x := fun x hx => funext (f1.2.2.2.2.1 x hx)
  have hai : ∀ j, j < nr → hI h1 (m + 31) j = amF R A M nr nw od nr j := fun j hj => by
    rw [q1 j hj]
    exact amF_cg (fun _ _ => rfl) eA HMM (Nat.le_refl nr) j
  refine mg_gots (h0 := h1) (by omega) m nr nw _ (H.fr f1) (by rw [gI (m + 1) (by omega)]; exact hn) (by rw [gI (m + 1) (by omega)]; exact hn2) hr5 hw6 rfl (fun h2 f2 q2 q3 => ?_) nw 0 h1 (by omega) (Fr'.refl _ _) (fun j hj => absurd hj (Nat.not_lt_zero j)) (fun _ => rfl)
  have gJ : ∀ x, ¬ (x = m + 3 ∨ x = m + 6) → hI h2 x = hI h1 x := fun x hx => funext (f2.2.2.2.2.1 x hx)
  rw [gI (m + 4) (by omega), gI (m + 2) (by omega), gI (m + 5) (by omega)] at q2 q3
  rw [gI (m + 7) (by omega), gI (m + 3) (by omega)] at q3
  rw [gI (m + 4) (by omega), gI (m + 2) (by omega), gI (m + 5) (by omega)]
  have hg : ∀ w, w < nw → ftF (hI h1 (m + 31)) (hI h (m + 4)) (hI h (m + 2)) (hI h (m + 5) w) w nr = gtF R A nr nw od M w := fun w hw => by
    have e1 : hI h (m + 5) w = M 4 w := (m2 w hw).1
    rw [e1]
    exact ftF_cg (fun j hj => ⟨hai j hj, (m1 j hj).1, (m1 j hj).2.1⟩)
  have hgl : ∀ w f, ftF (hI h1 (m + 31)) (hI h (m + 4)) (hI h (m + 2)) (hI h (m + 5) w) w nr = some f → f < nr := fun w f => ftF_lt _ _ _ _ _ _ _
  have hrw := rwF_cg (ai := hI h1 (m + 31)) (bi := amF R A M nr nw od nr) (wo := hI h (m + 7)) (wp := A 4) (gt := fun w => ftF (hI h1 (m + 31)) (hI h (m + 4)) (hI h (m + 2)) (hI h (m + 5) w) w nr) (hu := gtF R A nr nw od M) (pu := hI h (m + 2)) (pv := M 2) (we := hI h (m + 3)) (wf := M 3) (nr := nr) (n := nw) hai (fun j hj => (m1 j hj).2.1) (fun j hj => (m1 j hj).2.2) hgl (fun j hj => ⟨(eA.2 j hj).1, hg j hj⟩)
  have hpk : puOk (hI h (m + 2)) nr := fun j hj => by
    have : hI h (m + 2) j = M 2 j := (m1 j hj).2.1
    rw [this]; exact (hM1 j hj).2.1
  rw [biF_cg hg]
  have g1 : hI h2 (m + 1) = hI h (m + 1) := by rw [gJ (m + 1) (by omega), gI (m + 1) (by omega)]
  have g2 : hI h2 (m + 2) = hI h (m + 2) := by rw [gJ (m + 2) (by omega), gI (m + 2) (by omega)]
  refine mg_pays (h0 := h2) (by omega) m nr nw _ _ (hI h (m + 3)) ((H.fr f1).fr f2) (by rw [g1]; exact hn) (by rw [g1]; exact hn2) hr5 hw6 (by rw [g1]; exact hfe) q2 hgl (by rw [g2]; exact hpk) (f2.2.2.1.trans f1.2.2.1) (f2.2.2.2.1.trans f1.2.2.2.1) (fun h3 f3 q4 q5 => ?_) nw 0 h2 (by omega) (Fr'.refl _ _) (fun _ => rfl) (by rw [g2]; exact hpk)
  rw [gJ (m + 31) (by omega), gJ (m + 7) (by omega), gI (m + 7) (by omega), g1, g2] at q4
  rw [g1] at q5
  have f4 := ((f1.mono (T := fun b => b = m + 1 ∨ b = m + 2 ∨ b = m + 3 ∨ b = m + 6 ∨ b = m + 29 ∨ b = m + 30 ∨ b = m + 31) (fun b z => by omega)).trans (f2.mono (fun b z => by omega))).trans (f3.mono (fun b z => by omega))
  have e0 : hI h (m + 1) 3 = M 0 0 := m0
  have ef : hI h (m + 1) 0 = A 0 0 := eA.1
  refine k h3 f4 (fun j hj => by rw [q5 j, if_neg hj]) ⟨?_, fun j hj => ⟨?_, ?_, ?_⟩, fun j hj => ⟨?_, ?_⟩⟩
  · show hI h3 (m + 1) 3 = M 0 0 + 1
    rw [q5 3, if_pos rfl, e0]
  · show hI h3 (m + 4) j = M 1 j
    rw [f4.2.2.2.2.1 (m + 4) (by omega)]
    exact (m1 j hj).1
  · show hI h3 (m + 2) j = paF R A nr nw od M 2 j
    have := (hrw j hj).1
    rw [q4 j (by omega), this, e0, ef]
    simp only [paF, if_pos (pos_of hA0.1)]
  · show hI h3 (m + 3) j = paF R A nr nw od M 3 j
    rw [f3.2.2.2.2.1 (m + 3) (by omega), q3 j]
    exact (hrw j hj).2
  · show hI h3 (m + 5) j = M 4 j
    rw [f4.2.2.2.2.1 (m + 5) (by omega)]
    exact (m2 j hj).1
  · show hI h3 (m + 6) j = oI (gtF R A nr nw od M j)
    rw [f3.2.2.2.2.1 (m + 6) (by omega), q2 j hj, hg j hj]
/-! a day keeps what moments are -/
theorem t_min9999 {x : Int32} {y : Int32} (hx : 0 ≤ x.toInt ∧ x.toInt ≤ 9999) (hy : 0 ≤ y.toInt ∧ y.toInt ≤ 50) : x.toInt ≤ (if x + y < 9999 then x + y else 9999).toInt ∧ (if x + y < 9999 then x + y else 9999).toInt ≤ 9999 ∧ (if x + y < 9999 then x + y else 9999).toInt ≤ x.toInt + y.toInt := by
  have h := t_add (a := x) (b := y) (by omega) (by omega)
  split
  · rename_i z
    rw [Int32.lt_iff_toInt_lt, h, t_9999] at z
    omega
  · rename_i z
    rw [Int32.lt_iff_toInt_lt, h, t_9999] at z
    rw [t_9999]
    omega
theorem rwF_ok {ai pu we wo : Nat → Int32} {gt : Nat → Option Nat} {nr : Nat} (hg : ∀ w f, gt w = some f → f < nr) (hp : puOk pu nr) (hw : ∀ j, j < nr → 0 ≤ (we j).toInt ∧ (we j).toInt ≤ 9999) : ∀ n, (∀ j, j < n → 1 ≤ (wo j).toInt ∧ (wo j).toInt ≤ 50) → puOk (rwF ai nr wo gt pu we n).1 nr ∧ (∀ j, j < nr → (we j).toInt ≤ ((rwF ai nr wo gt pu we n).2 j).toInt ∧ ((rwF ai nr wo gt pu we n).2 j).toInt ≤ 9999)
  | 0, _ => ⟨hp, fun j hj => ⟨Int.le_refl _, (hw j hj).2⟩⟩
  | n + 1, ho => by
    have ih := rwF_ok (ai := ai) hg hp hw n (fun j hj => ho j (by omega))
    have hn := ho n (by omega)
    simp only [rwF]
    cases hb : gt n with
    | none => exact ih
    | some f =>
      have hf := hg n f hb
      refine ⟨pyF_ok ih.1 hf nr (Nat.le_refl nr), fun j hj => ?_⟩
      simp only [upd]
      have i1 := ih.2 j hj
      have h0 := hw j hj
      split
      · rename_i e
        subst e
        have := t_min9999 (x := (rwF ai nr wo gt pu we n).2 j) (y := wo n) ⟨by omega, i1.2⟩ ⟨by omega, hn.2⟩
        omega
      · exact i1
theorem paF_ok {R : Option (List (List (Nat × Nat) × List (Nat × Nat)))} {A M : Nat → Nat → Int32} {nr nw : Nat} {od : Nat → Option Int32} {D : Int} (hD : D < 1000000) (hA : hilOk nr nw A) (hM : momOk D nr nw M) : momOk (D + 1) nr nw (paF R A nr nw od M) := by
  obtain ⟨hr5, hw6, hA0, hA1, hA2⟩ := hA
  obtain ⟨hM0, hM1, hM2⟩ := hM
  have h1 := rwF_ok (ai := amF R A M nr nw od nr) (pu := M 2) (we := M 3) (wo := A 4) (gt := gtF R A nr nw od M) (nr := nr) (fun w f => gtF_lt) (fun j hj => (hM1 j hj).2.1) (fun j hj => (hM1 j hj).2.2) nw (fun j hj => (hA2 j hj).2.1)
  have hd : (M 0 0 + 1).toInt = (M 0 0).toInt + 1 := by rw [t_add] <;> rw [t_1] <;> omega
  refine ⟨?_, fun j hj => ⟨(hM1 j hj).1, ?_, ?_⟩, fun j hj => hM2 j hj⟩
  · show 0 ≤ (M 0 0 + 1).toInt ∧ (M 0 0 + 1).toInt ≤ D + 1
    rw [hd]; omega
  · simp only [paF, if_pos (pos_of hA0.1)]
    split
    · rw [t_0]; omega
    · exact h1.1 j hj
  · have := h1.2 j hj
    have h0 := (hM1 j hj).2.2
    simp only [paF]
    omega
