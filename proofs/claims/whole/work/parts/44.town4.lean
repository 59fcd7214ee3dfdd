/-! acts are kept and taken back -/
theorem twn_hil_dis {h : AH} {t a : Nat} (HT : TwnAt h t) (HA : HillAt h a) : t + 11 ≤ a ∨ a + 6 ≤ t := by
  have d := hil_mom_dis HA HT.mom
  obtain ⟨t0, -, -, -, -, -, t7, t8, t9, t10, -⟩ := HT
  obtain ⟨a0, -, -, -, -, -, a1, a2, a3, a4, a5⟩ := HA
  by_cases c : t + 11 ≤ a ∨ a + 6 ≤ t
  · exact c
  · exfalso
    have : a = t ∨ a = t + 7 ∨ a = t + 8 ∨ a = t + 9 ∨ a = t + 10 ∨ t = a + 1 ∨ t = a + 2 ∨ t = a + 3 ∨ t = a + 4 ∨ t = a + 5 := by omega
    rcases this with rfl | rfl | rfl | rfl | rfl | rfl | rfl | rfl | rfl | rfl <;> simp_all
def ownS (h : AH) (t : Nat) : Nat → Prop := fun c => c = t ∨ c = t + 7 ∨ ∃ i, i < 20 ∧ hR h (t + 7) i ≠ 0 ∧ mS (hR h (t + 7) i) c
/-- refs behind: old ones of this town, or new cells -/
def bfNew (h h' : AH) (t : Nat) : Prop := ∀ i, i < 20 → hR h' (t + 7) i ≠ 0 → (∃ j, j < 20 ∧ hR h (t + 7) j = hR h' (t + 7) i) ∨ hN h ≤ hR h' (t + 7) i
theorem HilO.dis {h : AH} {a nr nw b : Nat} {A : PC} (H : HilO h a nr nw A) (ha : a ≠ 0) (HB : MomAt h b) : a + 6 ≤ b ∨ b + 6 ≤ a := by
  rcases H with H | H
  · exact absurd H.1 ha
  · exact hil_mom_dis H.2.1 HB
theorem HilO.disT {h : AH} {a nr nw t : Nat} {A : PC} (H : HilO h a nr nw A) (ha : a ≠ 0) (HT : TwnAt h t) : t + 11 ≤ a ∨ a + 6 ≤ t := by
  rcases H with H | H
  · exact absurd H.1 ha
  · exact twn_hil_dis HT H.2.1
theorem keep_now {d : Nat} {h : AH} {Q : Option Value → AH → Prop} (hd : 6 ≤ d) (t b nr nw : Nat) (A : PC) (fo x : Int32) (M M' : PC) (ps : List PC) (ns : List (Nat × Nat × Int32)) (w : wfA h) (H : TownQ h t (nr, nw, A, fo, x, M, ps, ns)) (hn : ps.length < 20) (HB : MomIs h b nr nw M') (hb : hR h (t + 7) ps.length ≠ 0 → hR h (t + 7) ps.length ≠ b) (k : ∀ h', FrG h h' (ownS h t) → hN h' = hN h + kpE h t ps.length → hU h' = hU h + kpU h t ps.length → bfNew h h' t → (∀ j, j ≠ ps.length → hR h' (t + 7) j = hR h (t + 7) j) → (∀ j, hR h' t j = hR h t j) → (∀ j, hI h' t j = hI h t j) → TownQ h' t (nr, nw, A, fo, x, M, ps ++ [M'], ns) → Q none h') : Calls d nX9_keep [.ref t, .int (nI ps.length), .ref b] h (hN h + kpE h t ps.length) (hU h + kpU h t ps.length) Q := by
  obtain ⟨H0, ⟨b1, b2, b3, b4⟩, HH, ⟨i1, i2, i4⟩, HM, HF, HP, HNs⟩ := H
  have lt := H0.lt w
  refine sp_keep hd t ps.length b w H0 HB.1 hn (fun z => ⟨(HF _ hn z).1, hb z, (HF _ hn z).2.1⟩) (fun h' a f g1 g2 ha q1 q2 q3 HA qm => ?_)
  -- what of the town lies outside
  have sep : ∀ c, t ≤ c → c ≤ t + 10 → c ≠ t + 7 → ¬ (c = t + 7 ∨ (hR h (t + 7) ps.length ≠ 0 ∧ mS (hR h (t + 7) ps.length) c)) := fun c c1 c2 c3 z => by
    rcases z with z | ⟨z1, z2⟩
    · exact c3 z
    · have := twn_mom_dis H0 (HF _ hn z1).1 (HF _ hn z1).2.1
      unfold mS at z2
      omega
  have gt := fun c (c1 : t ≤ c) (c2 : c ≤ t + 10) (c3 : c ≠ t + 7) => f.2.2.1 c (by omega) (sep c c1 c2 c3)
  have momSep : ∀ i, i < 20 → i ≠ ps.length → hR h (t + 7) i ≠ 0 → ∀ c, hR h (t + 7) i ≤ c → c ≤ hR h (t + 7) i + 5 → ¬ (c = t + 7 ∨ (hR h (t + 7) ps.length ≠ 0 ∧ mS (hR h (t + 7) ps.length) c)) := fun i hi hne hz c c1 c2 z => by
    rcases z with z | ⟨z1, z2⟩
    · have := twn_mom_dis H0 (HF i hi hz).1 (HF i hi hz).2.1
      omega
    · have := mom_dis (HF i hi hz).1 (HF _ hn z1).1 (fun y => hne ((HF _ hn z1).2.2 i hi y))
      unfold mS at z2
      omega
  refine k h' (f.mono (fun c _ z => z.elim (fun z => Or.inr (Or.inl z)) (fun z => Or.inr (Or.inr ⟨ps.length, hn, z.1, z.2⟩)))) g1 g2 ?_ q2 (gt t (by omega) (by omega) (by omega)).1 (gt t (by omega) (by omega) (by omega)).2.1 ?_
  · intro i hi hz
    by_cases c : i = ps.length
    · subst c
      rw [q1] at hz ⊢
      rcases q3 with q3 | q3
      · exact Or.inl ⟨_, hn, q3.symm⟩
      · exact Or.inr (by omega)
    · rw [q2 i c]
      exact Or.inl ⟨i, hi, rfl⟩
  · have lN : hN h ≤ hN h' := f.1
    have HT' : TwnAt h' t := H0.frg w f (fun j _ => (gt t (by omega) (by omega) (by omega)).1 j) (gt (t + 1) (by omega) (by omega) (by omega)).1
    have gtt := (gt t (by omega) (by omega) (by omega)).2.1
    have ha1 : a ≠ t + 1 := by
      rcases q3 with q3 | q3
      · rw [q3]
        exact (HF _ hn (by rw [← q3]; exact ha)).2.1
      · omega
    have HMo : ∀ i, i < 20 → i ≠ ps.length → hR h (t + 7) i ≠ 0 → MomAt h' (hR h (t + 7) i) := fun i hi hne hz => by
      have hl := (HF i hi hz).1.lt w
      exact (HF i hi hz).1.frg w f (f.2.2.1 _ (by omega) (momSep i hi hne hz _ (by omega) (by omega))).1
    refine ⟨HT', ⟨b1, b2, by simp; omega, b4⟩, ?_, ⟨?_, ?_, ?_⟩, ?_, ?_, ?_, ?_⟩
    · rw [(gt t (by omega) (by omega) (by omega)).1]
      refine HH.frg w f (fun hz c c1 c2 z => ?_)
      rcases z with z | ⟨z1, z2⟩
      · have := HH.disT hz H0
        omega
      · have := HH.dis hz (HF _ hn z1).1
        unfold mS at z2
        omega
    · rw [gtt]; exact i1
    · rw [gtt]; exact i2
    · rw [gtt]; exact i4
    · exact HM.frg w b1 b2 f (fun c c1 c2 => sep c (by omega) (by omega) (by omega))
    · intro i hi hz
      by_cases c : i = ps.length
      · subst c
        rw [q1] at hz ⊢
        refine ⟨HA, ha1, fun j hj e => ?_⟩
        by_cases c2 : j = ps.length
        · exact c2
        · rw [q2 j c2] at e
          rcases q3 with q3 | q3
          · exact (HF _ hn (by rw [← q3]; exact ha)).2.2 j hj (e.trans q3)
          · have hzj : hR h (t + 7) j ≠ 0 := by omega
            have := (HF j hj hzj).1.lt w
            omega
      · rw [q2 i c] at hz ⊢
        refine ⟨HMo i hi c hz, (HF i hi hz).2.1, fun j hj e => ?_⟩
        by_cases c2 : j = ps.length
        · subst c2
          rw [q1] at e
          rcases q3 with q3 | q3
          · exact (HF i hi hz).2.2 _ hn (q3.symm.trans e)
          · have := (HF i hi hz).1.lt w
            omega
        · rw [q2 j c2] at e
          exact (HF i hi hz).2.2 j hj e
    · intro k N hk
      by_cases c : k < ps.length
      · rw [List.getElem?_append_left c] at hk
        obtain ⟨p1, p2⟩ := HP k N hk
        rw [q2 k (by omega)]
        exact ⟨p1, p2.frg w b1 b2 f (momSep k (by omega) (by omega) p1)⟩
      · rw [List.getElem?_append_right (by omega)] at hk
        have hl := getq_lt hk
        simp only [List.length_cons, List.length_nil] at hl
        have e : k = ps.length := by omega
        subst e
        simp at hk
        subst hk
        rw [q1]
        exact ⟨ha, HB.eq b1 b2 HA qm⟩
    · intro k q hk
      rw [(gt (t + 8) (by omega) (by omega) (by omega)).2.1, (gt (t + 9) (by omega) (by omega) (by omega)).2.1, (gt (t + 10) (by omega) (by omega) (by omega)).2.1]
      exact HNs k q hk
theorem TownQ.s5 {h : AH} {t : Nat} {T : TW} {y : Int32} (H : TownQ h t T) : TownQ (sI h t 5 y) t T := by
  obtain ⟨nr, nw, A, fo, x, M, ps, ns⟩ := T
  obtain ⟨H0, ⟨b1, b2, b3, b4⟩, HH, ⟨i1, i2, i4⟩, HM, HF, HP, HNs⟩ := H
  have f5 : Fr' h (sI h t 5 y) (fun c => c = t) := Fr'.sI rfl
  have eI : ∀ c, c ≠ t → ∀ j, hI (sI h t 5 y) c j = hI h c j := fun c hc j => by rw [hI_sI, if_neg hc]
  refine ⟨H0.fr f5, ⟨b1, b2, b3, b4⟩, ?_, ⟨?_, ?_, ?_⟩, HM.fr b1 b2 f5 (fun c c1 c2 => by omega), ?_, ?_, ?_⟩
  · rcases HH with HH | ⟨h1, h2⟩
    · exact Or.inl HH
    · have := twn_hil_dis H0 h2.1
      exact Or.inr ⟨h1, h2.fr f5 (fun b c1 c2 z => by omega)⟩
  · rw [hI_sI, if_pos rfl, if_neg (by decide)]; exact i1
  · rw [hI_sI, if_pos rfl, if_neg (by decide)]; exact i2
  · rw [hI_sI, if_pos rfl, if_neg (by decide)]; exact i4
  · intro i hi hz
    exact ⟨(HF i hi hz).1.fr f5, (HF i hi hz).2⟩
  · intro k N hk
    obtain ⟨p1, p2⟩ := HP k N hk
    have hk20 : k < 20 := by have := getq_lt hk; omega
    have := twn_mom_dis H0 (HF k hk20 p1).1 (HF k hk20 p1).2.1
    exact ⟨p1, p2.fr b1 b2 f5 (fun b c1 c2 z => by omega)⟩
  · intro k q hk
    rw [eI (t + 8) (by omega), eI (t + 9) (by omega), eI (t + 10) (by omega)]
    exact HNs k q hk
