/-! the reference's acts -/
def MZ (m : Nat) : Nat → Prop := fun c => m ≤ c ∧ c ≤ m + 43
def nxT (T : TW) (o : Option PC) : TW := match o with
  | none => T
  | some M' => (T.1, T.2.1, T.2.2.1, T.2.2.2.1, T.2.2.2.2.1, M', psR T.2.2.2.2.2.1 T.2.2.2.2.2.2.1, T.2.2.2.2.2.2.2)
theorem RW.act {d : Nat} {h : AH} {Q : Option Value → AH → Prop} {m nr nw : Nat} {A M : PC} {fo x : Int32} {ps : List PC} {ns : List (Nat × Nat × Int32)} {cls : List (List (List (Nat × Nat) × List (Nat × Nat)))} {tp : List Int32} {im : Nat → Option TW} (hd : 8 ≤ d) (H : RW h m ((nr, nw, A, fo, x, M, ps, ns), cls, tp, im)) (k : ∀ h', Fr' h h' (fun b => b = m ∨ b = m + 33) → RW h' m ((nr, nw, A, fo, x, M, psR M ps, ns), cls, tp, im) → Q none h') : Calls d nX12_keepsAct [.ref m] h (hN h) (hU h) Q :=
  m_keepsAct hd m nr nw A fo x M ps ns H.mod H.2.1 (fun h' f e HT => k h' f (H.up f (fun c z => by omega) (fun j hj => e j (by omega) (by omega) (by omega)) HT))
theorem MNo.same {h h' : AH} {m nr nw : Nat} {A M M' : PC} {fo x : Int32} {ps : List PC} {ns : List (Nat × Nat × Int32)} {S : Nat → Prop} (H : MNo h m (nr, nw, A, fo, x, M, ps, ns)) (f : Fr' h h' S) (hs : ∀ c, S c → (m + 1 ≤ c ∧ c ≤ m + 6) ∨ (m + 29 ≤ c ∧ c ≤ m + 31)) (e1 : ∀ j, j ≠ 3 → hI h' (m + 1) j = hI h (m + 1) j) (eM : eqM nr nw (rM h' m) M') : MNo h' m (nr, nw, A, fo, x, M', ps, ns) :=
  H.mom f (fun c z => Or.inr (hs c z)) e1 (by rw [f.2.2.2.2.1 m (fun z => by have := hs m z; omega)]; exact H.2.2.2.2.2.2.1) H.1.2.2.1 (fun _ _ z => z) eM
theorem eqM.cell {h : AH} {m nr nw r0 k r : Nat} {M : PC} {v : Int32} (H : eqM nr nw (rM h m) M) (hk : (r0 = 4 ∧ k = 1) ∨ (r0 = 2 ∧ k = 2) ∨ (r0 = 5 ∧ k = 4)) : eqM nr nw (rM (sI h (m + r0) r v) m) (setC M k r v) := by
  obtain ⟨m0, m1, m2⟩ := H
  have m1a : ∀ j, j < nr → hI h (m + 4) j = M 1 j := fun j hj => (m1 j hj).1
  have m1b : ∀ j, j < nr → hI h (m + 2) j = M 2 j := fun j hj => (m1 j hj).2.1
  have m1c : ∀ j, j < nr → hI h (m + 3) j = M 3 j := fun j hj => (m1 j hj).2.2
  have m2a : ∀ j, j < nw → hI h (m + 5) j = M 4 j := fun j hj => (m2 j hj).1
  have m2b : ∀ j, j < nw → hI h (m + 6) j = M 5 j := fun j hj => (m2 j hj).2
  have m0 : hI h (m + 1) 3 = M 0 0 := m0
  rcases hk with ⟨rfl, rfl⟩ | ⟨rfl, rfl⟩ | ⟨rfl, rfl⟩
  all_goals
    refine ⟨?_, fun j hj => ⟨?_, ?_, ?_⟩, fun j hj => ⟨?_, ?_⟩⟩
    all_goals simp only [rM, setC, hI_sI, Nat.add_left_cancel_iff, Nat.reduceEqDiff, if_false, if_true, false_and, true_and]
    all_goals first | exact m0 | exact m1a j hj | exact m1b j hj | exact m1c j hj | exact m2a j hj | exact m2b j hj | skip
    all_goals (by_cases c : j = r <;> simp only [c, if_true, if_false] <;> first | rfl | exact m1a j hj | exact m1b j hj | exact m2a j hj | skip)
theorem RW.cell {h : AH} {m nr nw r0 k r : Nat} {A M : PC} {fo x v : Int32} {ps : List PC} {ns : List (Nat × Nat × Int32)} {cls : List (List (List (Nat × Nat) × List (Nat × Nat)))} {tp : List Int32} {im : Nat → Option TW} (H : RW h m ((nr, nw, A, fo, x, M, ps, ns), cls, tp, im)) (hk : (r0 = 4 ∧ k = 1) ∨ (r0 = 2 ∧ k = 2) ∨ (r0 = 5 ∧ k = 4)) : RW (sI h (m + r0) r v) m ((nr, nw, A, fo, x, setC M k r v, ps, ns), cls, tp, im) := by
  have f : Fr' h (sI h (m + r0) r v) (fun c => c = m + r0) := Fr'.sI rfl
  exact H.up f (fun c z => by omega) (fun j _ => by rw [hI_sI, if_neg (by omega)]) (H.2.1.same f (fun c z => by omega) (fun j _ => by rw [hI_sI, if_neg (by omega)]) (H.2.1.hil.2.cell hk))
def oFall (nr : Nat) (M : PC) (q : Int32) : Int32 × Option PC := if (0 ≤ q ∧ q < nI nr) ∧ M 2 q.toNatClampNeg ≠ 0 then (M 2 q.toNatClampNeg, some (setC M 2 q.toNatClampNeg 0)) else (-1000, none)
theorem m_fall {d : Nat} {h : AH} {Q : Option Value → AH → Prop} (hd : 9 ≤ d) (m nr nw : Nat) (A M : PC) (fo x : Int32) (ps : List PC) (ns : List (Nat × Nat × Int32)) (cls : List (List (List (Nat × Nat) × List (Nat × Nat)))) (tp : List Int32) (im : Nat → Option TW) (q : Int32) (H : RW h m ((nr, nw, A, fo, x, M, ps, ns), cls, tp, im)) (k : ∀ h', Fr' h h' (MZ m) → RW h' m (nxT (nr, nw, A, fo, x, M, ps, ns) (oFall nr M q).2, cls, tp, im) → Q (some (.int (oFall nr M q).1)) h') : Calls d nX12_fall [.ref m, .int q] h (hN h) (hU h) Q := by
  obtain ⟨e, rfl⟩ : ∃ e, d = e + 1 := ⟨d - 1, by omega⟩
  have HM := H.mod
  have HH := H.2.1.hil
  have hr5 := H.2.1.1.1
  refine wX12_fall (by omega) m q ?_
  simp only [rt_i, rt_b0, rt_b1, rt_v, rt_l, rt_o, rt_a, rV_none, rI_some, rL_some, rR_some, rT_some, rt_bI, hIf_sL, hIf_sR, hS_sI, hS_sL, hS_sR, hS_cpI, hR_sI, hR_sL, hR_cpI, hL_sI, hL_sR, hL_cpI, hI_sL, hI_sR, hN_sI, hN_sL, hN_sR, hN_cpI, hU_sI, hU_sL, hU_sR, hU_cpI, tn0, tn1, tn2, tn3, tn4, tn5, tn6, tn7, tn8, tn9, tn10, tn11, tn12, tn13, tn14, tn15, tn16, tn17, tn18, tn19, tn20, tn21, tn22, tn23, tn24, tn25, tn26, tn27, tn28, tn29, tn30, tn31, tn32, tn33, tn34, tn35, tn36, tn37, tn38, tn39, tn40, tn41, tn42, tn43, tn44, tn45, tn46, tn47, tn48, tn49, tn50, tn51, tn52, tn53, tn54, tn55, tn56, tn57, tn58, tn59, tn60, lH_eq, true_and, and_true, mdq_0 HM]
  refine m_isRunner (by omega) m nr q HM HH.1.1 hr5 ?_
  simp only [rI_some, bI0]
  refine ⟨fun z => ?_, fun z => ?_⟩
  · have e : oFall nr M q = (-1000, none) := by unfold oFall; rw [if_neg (fun y => z y.1)]
    rw [e] at k
    exact ⟨trivial, trivial, k h (Fr'.refl _ _) H⟩
  · have z := Decidable.not_not.mp z
    obtain ⟨r, hr, rfl⟩ := rn_of (by omega) z
    have e2 : hI h (m + 2) r = M 2 r := (HH.2.2.1 r hr).2.1
    simp only [rt_i, rt_b0, rt_b1, rt_v, rt_l, rt_o, rt_a, rV_none, rI_some, rL_some, rR_some, rT_some, rt_bI, hIf_sL, hIf_sR, hS_sI, hS_sL, hS_sR, hS_cpI, hR_sI, hR_sL, hR_cpI, hL_sI, hL_sR, hL_cpI, hI_sL, hI_sR, hN_sI, hN_sL, hN_sR, hN_cpI, hU_sI, hU_sL, hU_sR, hU_cpI, tn0, tn1, tn2, tn3, tn4, tn5, tn6, tn7, tn8, tn9, tn10, tn11, tn12, tn13, tn14, tn15, tn16, tn17, tn18, tn19, tn20, tn21, tn22, tn23, tn24, tn25, tn26, tn27, tn28, tn29, tn30, tn31, tn32, tn33, tn34, tn35, tn36, tn37, tn38, tn39, tn40, tn41, tn42, tn43, tn44, tn45, tn46, tn47, tn48, tn49, tn50, tn51, tn52, tn53, tn54, tn55, tn56, tn57, tn58, tn59, tn60, lH_eq, true_and, and_true, mdq_0 HM, mdq_2 HM, mds_2 HM, vp_in_nI (show r < 5 by omega) (show 5 < 2 ^ 31 by omega), nI_clamp (show r < 2 ^ 31 by omega), e2]
    refine ⟨fun y => ?_, fun y => ?_⟩
    · have e : oFall nr M (nI r) = (M 2 r, some (setC M 2 r 0)) := by unfold oFall; rw [nI_clamp (by omega), if_pos ⟨z, y⟩]
      rw [e] at k
      refine H.act (by omega) (fun h1 f1 H1 => ?_)
      have HM1 := H1.mod
      have e3 : hI h1 (m + 2) r = M 2 r := (H1.2.1.hil.2.2.1 r hr).2.1
      simp only [rV_none, rt_i, rt_b0, rt_b1, rt_v, rt_l, rt_o, rt_a, rV_none, rI_some, rL_some, rR_some, rT_some, rt_bI, hIf_sL, hIf_sR, hS_sI, hS_sL, hS_sR, hS_cpI, hR_sI, hR_sL, hR_cpI, hL_sI, hL_sR, hL_cpI, hI_sL, hI_sR, hN_sI, hN_sL, hN_sR, hN_cpI, hU_sI, hU_sL, hU_sR, hU_cpI, tn0, tn1, tn2, tn3, tn4, tn5, tn6, tn7, tn8, tn9, tn10, tn11, tn12, tn13, tn14, tn15, tn16, tn17, tn18, tn19, tn20, tn21, tn22, tn23, tn24, tn25, tn26, tn27, tn28, tn29, tn30, tn31, tn32, tn33, tn34, tn35, tn36, tn37, tn38, tn39, tn40, tn41, tn42, tn43, tn44, tn45, tn46, tn47, tn48, tn49, tn50, tn51, tn52, tn53, tn54, tn55, tn56, tn57, tn58, tn59, tn60, lH_eq, true_and, and_true, mdq_0 HM1, mdq_2 HM1, mds_2 HM1, vp_in_nI (show r < 5 by omega) (show 5 < 2 ^ 31 by omega), nI_clamp (show r < 2 ^ 31 by omega), e3]
      have f2 : Fr' h (sI h1 (m + 2) r 0) (MZ m) := (f1.mono (fun c z => by unfold MZ; omega)).trans (Fr'.sI (by unfold MZ; omega))
      exact ⟨f2.2.2.1, f2.2.2.2.1, k _ f2 (H1.cell (r0 := 2) (k := 2) (Or.inr (Or.inl ⟨rfl, rfl⟩)))⟩
    · have e : oFall nr M (nI r) = (-1000, none) := by unfold oFall; rw [nI_clamp (by omega), if_neg (fun x => x.2 y)]
      rw [e] at k
      exact k h (Fr'.refl _ _) H
