theorem TownQ.notes {h h' : AH} {t nr nw : Nat} {A : PC} {fo x : Int32} {M : PC} {ps : List PC} {ns ns' : List (Nat × Nat × Int32)} (H : TownQ h t (nr, nw, A, fo, x, M, ps, ns)) (f : Fr' h h' (fun c => c = t ∨ c = t + 8 ∨ c = t + 9 ∨ c = t + 10)) (e : ∀ j, j ≠ 9 → hI h' t j = hI h t j) (e9 : hI h' t 9 = nI ns'.length) (hl : ns'.length ≤ 10) (hq : ∀ k q, ns'[k]? = some q → hI h' (t + 8) k = nI q.1 ∧ hI h' (t + 9) k = nI q.2.1 ∧ hI h' (t + 10) k = q.2.2) : TownQ h' t (nr, nw, A, fo, x, M, ps, ns') := by
  obtain ⟨H0, ⟨b1, b2, b3, b4⟩, HH, ⟨i1, i2, i4⟩, HM, HF, HP, HNs⟩ := H
  refine ⟨H0.fr f, ⟨b1, b2, b3, hl⟩, ?_, ⟨?_, ?_, e9⟩, HM.fr b1 b2 f (fun c c1 c2 => by omega), ?_, ?_, hq⟩
  · rw [f.2.1]
    rcases HH with HH | ⟨h1, h2⟩
    · exact Or.inl HH
    · have := twn_hil_dis H0 h2.1
      exact Or.inr ⟨h1, h2.fr f (fun b c1 c2 z => by omega)⟩
  · rw [e 1 (by decide)]; exact i1
  · rw [e 2 (by decide)]; exact i2
  · intro i hi hz
    simp only [f.2.1] at hz ⊢
    exact ⟨(HF i hi hz).1.fr f, (HF i hi hz).2⟩
  · intro k N hk
    obtain ⟨p1, p2⟩ := HP k N hk
    have hk20 : k < 20 := by have := getq_lt hk; omega
    have := twn_mom_dis H0 (HF k hk20 p1).1 (HF k hk20 p1).2.1
    rw [f.2.1]
    exact ⟨p1, p2.fr b1 b2 f (fun b c1 c2 z => by omega)⟩
theorem twn_dis {h : AH} {t u : Nat} (HT : TwnAt h t) (HU : TwnAt h u) (hn : t ≠ u) : t + 11 ≤ u ∨ u + 11 ≤ t := by
  have d := twn_mom_dis HT HU.mom (by omega)
  have d2 := twn_mom_dis HU HT.mom (by omega)
  obtain ⟨t0, -, -, -, -, -, t7, t8, t9, t10, -⟩ := HT
  obtain ⟨u0, -, -, -, -, -, u7, u8, u9, u10, -⟩ := HU
  by_cases c : t + 11 ≤ u ∨ u + 11 ≤ t
  · exact c
  · exfalso
    have : u = t + 7 ∨ u = t + 8 ∨ u = t + 9 ∨ u = t + 10 ∨ t = u + 7 ∨ t = u + 8 ∨ t = u + 9 ∨ t = u + 10 := by omega
    rcases this with rfl | rfl | rfl | rfl | rfl | rfl | rfl | rfl <;> simp_all
def kpN (f : Nat → Nat) : Nat → Nat
  | 0 => 0
  | n + 1 => kpN f n + if f n = 0 then 1 else 0
theorem kpN_cg {f g : Nat → Nat} : ∀ {n : Nat}, (∀ j, j < n → f j = g j) → kpN f n = kpN g n
  | 0, _ => rfl
  | n + 1, h => by
    have ih := kpN_cg (fun j hj => h j (Nat.lt_succ_of_lt hj))
    simp only [kpN, ih, h n (Nat.lt_succ_self n)]
theorem kpN_mono {f : Nat → Nat} {a : Nat} : ∀ b, a ≤ b → kpN f a ≤ kpN f b
  | 0, h => by
    have : a = 0 := by omega
    subst this; exact Nat.le_refl _
  | b + 1, h => by
    by_cases c : a = b + 1
    · rw [c]; exact Nat.le_refl _
    · have := kpN_mono (f := f) b (show a ≤ b by omega)
      simp only [kpN]
      omega
/-- towns t and u have moments of their own -/
def sepT (h : AH) (t u : Nat) : Prop := ∀ i, i < 20 → hR h (t + 7) i ≠ 0 → hR h (t + 7) i ≠ u + 1 ∧ ∀ j, j < 20 → hR h (t + 7) i ≠ hR h (u + 7) j
def blkS (h : AH) (t : Nat) : Nat → Prop := fun c => (t ≤ c ∧ c ≤ t + 10) ∨ ∃ i, i < 20 ∧ hR h (t + 7) i ≠ 0 ∧ mS (hR h (t + 7) i) c
theorem ownS_blk {h : AH} {t c : Nat} (z : ownS h t c) : blkS h t c := by
  rcases z with z | z | z
  · exact Or.inl (by omega)
  · exact Or.inl (by omega)
  · exact Or.inr z
/-- a town u stays, when t's cells are written -/
theorem TownIs.sep {h h' : AH} {t u : Nat} {T U : TW} (w : wfA h) (HT : TownIs h t T) (HU : TownIs h u U) (hn : t ≠ u) (s1 : sepT h t u) (s2 : sepT h u t) (f : FrG h h' (blkS h t)) : TownIs h' u U := by
  have H0 : TwnAt h t := by obtain ⟨nr, nw, A, fo, x, M, ps, ns⟩ := T; exact HT.1
  have HF : BfOk h t := by obtain ⟨nr, nw, A, fo, x, M, ps, ns⟩ := T; exact HT.2.2.2.2.2.1
  have U0 : TwnAt h u := by obtain ⟨nr, nw, A, fo, x, M, ps, ns⟩ := U; exact HU.1
  have UF : BfOk h u := by obtain ⟨nr, nw, A, fo, x, M, ps, ns⟩ := U; exact HU.2.2.2.2.2.1
  have dtu := twn_dis H0 U0 hn
  refine HU.frg w f (fun b c1 c2 z => ?_) (fun hz b c1 c2 z => ?_) (fun i hi hz b c1 c2 z => ?_)
  · rcases z with z | ⟨i, hi, z1, z2⟩
    · omega
    · have := twn_mom_dis U0 (HF i hi z1).1 (s1 i hi z1).1
      unfold mS at z2
      omega
  · have HH : ∃ nr nw A, HilO h (hR h u 0) nr nw A := by obtain ⟨nr, nw, A, fo, x, M, ps, ns⟩ := U; exact ⟨nr, nw, A, HU.2.2.1⟩
    obtain ⟨nr, nw, A, HH⟩ := HH
    rcases z with z | ⟨i, hi, z1, z2⟩
    · have := HH.disT hz H0
      omega
    · have := HH.dis hz (HF i hi z1).1
      unfold mS at z2
      omega
  · rcases z with z | ⟨j, hj, z1, z2⟩
    · have := twn_mom_dis H0 (UF i hi hz).1 (s2 i hi hz).1
      omega
    · have := mom_dis (UF i hi hz).1 (HF j hj z1).1 ((s2 i hi hz).2 j hj)
      unfold mS at z2
      omega
theorem TownQ.sep {h h' : AH} {t u : Nat} {T U : TW} (w : wfA h) (HT : TownQ h t T) (HU : TownIs h u U) (hn : t ≠ u) (s1 : sepT h t u) (s2 : sepT h u t) (f : FrG h h' (blkS h t)) : TownIs h' u U := by
  obtain ⟨nr, nw, A, fo, x, M, ps, ns⟩ := T
  have lt := HT.1.lt w
  have HT2 := (HT.s5 (y := nI ps.length)).is (by rw [hI_sI, if_pos rfl, if_pos rfl])
  have HU2 : TownIs (sI h t 5 (nI ps.length)) u U := by
    have U0 : TwnAt h u := by obtain ⟨nr, nw, A, fo, x, M, ps, ns⟩ := U; exact HU.1
    have UF : BfOk h u := by obtain ⟨nr, nw, A, fo, x, M, ps, ns⟩ := U; exact HU.2.2.2.2.2.1
    have dtu := twn_dis HT.1 U0 hn
    refine HU.frg w (FrG.of (Fr'.sI (S := fun c => c = t) rfl)) (fun b c1 c2 z => by omega) (fun hz b c1 c2 z => ?_) (fun i hi hz b c1 c2 z => ?_)
    · have HH : ∃ nr nw A, HilO h (hR h u 0) nr nw A := by obtain ⟨nr, nw, A, fo, x, M, ps, ns⟩ := U; exact ⟨nr, nw, A, HU.2.2.1⟩
      obtain ⟨nr, nw, A, HH⟩ := HH
      have := HH.disT hz HT.1
      omega
    · have := twn_mom_dis HT.1 (UF i hi hz).1 (s2 i hi hz).1
      omega
  refine TownIs.sep (h := sI h t 5 (nI ps.length)) w HT2 HU2 hn s1 s2 ?_
  refine ⟨f.1, f.2.1, fun b hb z => ?_, f.2.2.2⟩
  have q := f.2.2.1 b hb z
  refine ⟨q.1, fun j => ?_, q.2.2⟩
  rw [hI_sI, if_neg (fun y => z (Or.inl (by omega)))]
  exact q.2.1 j
