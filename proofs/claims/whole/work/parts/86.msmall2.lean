theorem MNo.mom {h h' : AH} {m nr nw : Nat} {A M M' : PC} {fo x : Int32} {ps ps' : List PC} {ns : List (Nat × Nat × Int32)} {S : Nat → Prop} (H : MNo h m (nr, nw, A, fo, x, M, ps, ns)) (f : Fr' h h' S) (hs : ∀ c, S c → c = m ∨ (m + 1 ≤ c ∧ c ≤ m + 6) ∨ (m + 29 ≤ c ∧ c ≤ m + 31)) (e1 : ∀ j, j ≠ 3 → hI h' (m + 1) j = hI h (m + 1) j) (e45 : hI h' m 45 = nI ps'.length) (hl : ps'.length ≤ 20) (hp : ∀ (k : Nat) (N : PC), ps'[k]? = some N → ps[k]? = some N) (eM : eqM nr nw (rM h' m) M') : MNo h' m (nr, nw, A, fo, x, M', ps', ns) := by
  obtain ⟨⟨b1, b2, b3, b4⟩, ⟨s0, s1, s2, s3, s4, s5, s6⟩, h1, h2, h3, h4, h5, h6, h7⟩ := H
  obtain ⟨m0, m1, m2⟩ := eM
  have g : ∀ r, 7 ≤ r → r ≤ 14 ∨ r = 33 → refP h' m r = refP h m r := fun r hr hr2 => by
    funext j
    unfold refP
    rw [if_neg (by omega), if_neg (by omega)]
    exact f.2.2.2.2.1 _ (fun z => by have := hs _ z; omega) j
  refine ⟨⟨b1, b2, hl, b4⟩, ⟨(e1 0 (by decide)).trans s0, (e1 1 (by decide)).trans s1, (e1 2 (by decide)).trans s2, m0, (e1 4 (by decide)).trans s4, (e1 5 (by decide)).trans s5, (e1 6 (by decide)).trans s6⟩, m1, m2, fun j hj => ?_, fun j hj => ?_, e45, fun k N hk => ?_, fun k q hq => ?_⟩
  · rw [g 12 (by decide) (by decide), g 13 (by decide) (by decide)]; exact h3 j hj
  · rw [g 14 (by decide) (by decide), g 7 (by decide) (by decide), g 8 (by decide) (by decide)]; exact h4 j hj
  · rw [g 33 (by decide) (by decide)]; exact h6 k N (hp k N hk)
  · rw [g 9 (by decide) (by decide), g 10 (by decide) (by decide), g 11 (by decide) (by decide)]; exact h7 k q hq
theorem RW.tp {h h' : AH} {m : Nat} {T : TW} {cls : List (List (List (Nat × Nat) × List (Nat × Nat)))} {tp tp' : List Int32} {im : Nat → Option TW} {S : Nat → Prop} (H : RW h m (T, cls, tp, im)) (f : Fr' h h' S) (hs : ∀ c, S c → c = m ∨ c = m + 21) (e0 : ∀ j, j ≠ 21 → hI h' m j = hI h m j) (e21 : hI h' m 21 = nI tp'.length) (hl : tp'.length ≤ 400) (hb : ∀ (i : Nat) (b : Int32), tp'[i]? = some b → hI h' (m + 21) i = b) : RW h' m (T, cls, tp', im) := by
  obtain ⟨w1, w2, w3, ⟨w4, w5, w6⟩, ⟨w7, w8, w9⟩, w10, w11⟩ := H
  have g : ∀ c, ¬ (c = m ∨ c = m + 21) → ∀ j, hI h' c j = hI h c j := fun c hc j => f.2.2.2.2.1 c (fun z => hc (hs c z)) j
  refine ⟨w1.fr f, w2.cg (fun r hr j hj => ?_), fun j hj => (g (m + 32) (by omega) j).trans (w3 j hj), ⟨(e0 25 (by decide)).trans w4, w5, fun i c hc => (w6 i c hc).cg (fun b h1 h2 => g b (by omega))⟩, ⟨e21, hl, hb⟩, fun s hs => (w10 s hs).cg hs (g (m + 43) (by omega) s) (fun j _ hj => g (m + 42) (by omega) j), (e0 30 (by decide)).trans w11⟩
  unfold refP
  split
  · exact e0 45 (by decide)
  · have h1 := (by decide : ∀ r ∈ rowsL, 1 ≤ r ∧ r ≠ 21) r hr
    exact g _ (by omega) j
def oEnd (tp : List Int32) (n : Int32) : Int32 × List Int32 := if 0 ≤ n ∧ n ≤ nI tp.length then (n, tp.take n.toNatClampNeg) else (-1, tp)
theorem m_end {d : Nat} {h : AH} {Q : Option Value → AH → Prop} (hd : 5 ≤ d) (m : Nat) (T : TW) (cls : List (List (List (Nat × Nat) × List (Nat × Nat)))) (tp : List Int32) (im : Nat → Option TW) (n : Int32) (H : RW h m (T, cls, tp, im)) (k : ∀ h', Fr' h h' (fun c => c = m) → RW h' m (T, cls, (oEnd tp n).2, im) → Q (some (.int (oEnd tp n).1)) h') : Calls d nX12_end [.ref m, .int n] h (hN h) (hU h) Q := by
  obtain ⟨e, rfl⟩ : ∃ e, d = e + 1 := ⟨d - 1, by omega⟩
  have HM := H.mod
  have w7 := H.2.2.2.2.1
  refine wX12_end (by omega) m n ?_
  simp only [rt_i, rt_b0, rt_b1, rt_v, rt_l, rt_o, rt_a, rV_none, rI_some, rL_some, rR_some, rT_some, rt_bI, hIf_sL, hIf_sR, hS_sI, hS_sL, hS_sR, hS_cpI, hR_sI, hR_sL, hR_cpI, hL_sI, hL_sR, hL_cpI, hI_sL, hI_sR, hN_sI, hN_sL, hN_sR, hN_cpI, hU_sI, hU_sL, hU_sR, hU_cpI, tn0, tn1, tn2, tn3, tn4, tn5, tn6, tn7, tn8, tn9, tn10, tn11, tn12, tn13, tn14, tn15, tn16, tn17, tn18, tn19, tn20, tn21, tn22, tn23, tn24, tn25, tn26, tn27, tn28, tn29, tn30, tn31, tn32, tn33, tn34, tn35, tn36, tn37, tn38, tn39, tn40, tn41, tn42, tn43, tn44, tn45, tn46, tn47, tn48, tn49, tn50, tn51, tn52, tn53, tn54, tn55, tn56, tn57, tn58, tn59, tn60, lH_eq, true_and, and_true, mdq_0 HM, w7.1]
  refine ⟨fun z => ?_, fun z => ⟨fun y => ?_, fun y => ?_⟩⟩
  · have e : oEnd tp n = (-1, tp) := by unfold oEnd; rw [if_neg (fun x => absurd z (Int32.not_lt.mpr x.1))]
    rw [e] at k
    exact k h (Fr'.refl _ _) H
  · have z := Int32.not_lt.mp z
    obtain ⟨i, hi, rfl⟩ := rg_of (n := tp.length) rfl (by omega) ⟨z, y⟩
    have e : oEnd tp (nI i) = (nI i, tp.take i) := by unfold oEnd; rw [if_pos ⟨z, y⟩, nI_clamp (by omega)]
    rw [e] at k
    have f : Fr' h (sI h m 21 (nI i)) (fun c => c = m) := Fr'.sI rfl
    refine k _ f (H.tp f (fun c z => Or.inl z) (fun j hj => by rw [hI_sI, if_pos rfl, if_neg hj]) (by rw [hI_sI, if_pos rfl, if_pos rfl]; simp; rw [Nat.min_eq_left hi]) (by simp; omega) (fun j b hb => ?_))
    rw [hI_sI, if_neg (by omega)]
    rw [List.getElem?_take] at hb
    split at hb
    · exact w7.2.2 j b hb
    · cases hb
  · have e : oEnd tp n = (-1, tp) := by unfold oEnd; rw [if_neg (fun x => y x.2)]
    rw [e] at k
    exact k h (Fr'.refl _ _) H
def oForce (fo : Int32) (c : Nat) (n : Int32) : Int32 × Int32 := if -1 ≤ n ∧ n ≤ nI c - 1 then (fo, n) else (-2, fo)
theorem m_force {d : Nat} {h : AH} {Q : Option Value → AH → Prop} (hd : 6 ≤ d) (m nr nw : Nat) (A M : PC) (fo x : Int32) (ps : List PC) (ns : List (Nat × Nat × Int32)) (cls : List (List (List (Nat × Nat) × List (Nat × Nat)))) (tp : List Int32) (im : Nat → Option TW) (n : Int32) (H : RW h m ((nr, nw, A, fo, x, M, ps, ns), cls, tp, im)) (k : ∀ h', Fr' h h' (fun c => c = m + 1) → RW h' m ((nr, nw, A, (oForce fo cls.length n).2, x, M, ps, ns), cls, tp, im) → Q (some (.int (oForce fo cls.length n).1)) h') : Calls d nX12_force [.ref m, .int n] h (hN h) (hU h) Q := by
  obtain ⟨e, rfl⟩ : ∃ e, d = e + 1 := ⟨d - 1, by omega⟩
  have HM := H.mod
  have w4 := H.2.2.2.1
  have s6 : hI h (m + 1) 6 = fo := H.2.1.2.1.2.2.2.2.2.2
  refine wX12_force (by omega) m n ?_
  simp only [rt_i, rt_b0, rt_b1, rt_v, rt_l, rt_o, rt_a, rV_none, rI_some, rL_some, rR_some, rT_some, rt_bI, hIf_sL, hIf_sR, hS_sI, hS_sL, hS_sR, hS_cpI, hR_sI, hR_sL, hR_cpI, hL_sI, hL_sR, hL_cpI, hI_sL, hI_sR, hN_sI, hN_sL, hN_sR, hN_cpI, hU_sI, hU_sL, hU_sR, hU_cpI, tn0, tn1, tn2, tn3, tn4, tn5, tn6, tn7, tn8, tn9, tn10, tn11, tn12, tn13, tn14, tn15, tn16, tn17, tn18, tn19, tn20, tn21, tn22, tn23, tn24, tn25, tn26, tn27, tn28, tn29, tn30, tn31, tn32, tn33, tn34, tn35, tn36, tn37, tn38, tn39, tn40, tn41, tn42, tn43, tn44, tn45, tn46, tn47, tn48, tn49, tn50, tn51, tn52, tn53, tn54, tn55, tn56, tn57, tn58, tn59, tn60, lH_eq, true_and, and_true, mdq_0 HM, w4.1]
  refine m_in32 (by omega) n (-1) (nI cls.length - 1) rfl rfl rfl ?_
  simp only [rI_some, bI0, rt_i, rt_b0, rt_b1, rt_v, rt_l, rt_o, rt_a, rV_none, rI_some, rL_some, rR_some, rT_some, rt_bI, hIf_sL, hIf_sR, hS_sI, hS_sL, hS_sR, hS_cpI, hR_sI, hR_sL, hR_cpI, hL_sI, hL_sR, hL_cpI, hI_sL, hI_sR, hN_sI, hN_sL, hN_sR, hN_cpI, hU_sI, hU_sL, hU_sR, hU_cpI, tn0, tn1, tn2, tn3, tn4, tn5, tn6, tn7, tn8, tn9, tn10, tn11, tn12, tn13, tn14, tn15, tn16, tn17, tn18, tn19, tn20, tn21, tn22, tn23, tn24, tn25, tn26, tn27, tn28, tn29, tn30, tn31, tn32, tn33, tn34, tn35, tn36, tn37, tn38, tn39, tn40, tn41, tn42, tn43, tn44, tn45, tn46, tn47, tn48, tn49, tn50, tn51, tn52, tn53, tn54, tn55, tn56, tn57, tn58, tn59, tn60, lH_eq, true_and, and_true, mdq_0 HM, mdq_1 HM, mds_1 HM, vl7_0, vl7_1, vl7_2, vl7_3, vl7_4, vl7_5, vl7_6, s6]
  unfold oForce at k
  refine ⟨fun z => ?_, fun z => ?_⟩
  · rw [if_pos (Decidable.not_not.mp z)] at k
    have f : Fr' h (sI h (m + 1) 6 n) (fun c => c = m + 1) := Fr'.sI rfl
    exact k _ f (H.up f (fun c z => by omega) (fun j _ => by rw [hI_sI, if_neg (by omega)]) H.2.1.force)
  · rw [if_neg z] at k
    exact k h (Fr'.refl _ _) H
def oSeed (x n : Int32) : Int32 × Int32 := if 0 ≤ n then (x, n) else (-1, x)
theorem m_seed {d : Nat} {h : AH} {Q : Option Value → AH → Prop} (hd : 6 ≤ d) (m nr nw : Nat) (A M : PC) (fo x : Int32) (ps : List PC) (ns : List (Nat × Nat × Int32)) (cls : List (List (List (Nat × Nat) × List (Nat × Nat)))) (tp : List Int32) (im : Nat → Option TW) (n : Int32) (H : RW h m ((nr, nw, A, fo, x, M, ps, ns), cls, tp, im)) (k : ∀ h', Fr' h h' (fun c => c = m + 1) → RW h' m ((nr, nw, A, fo, (oSeed x n).2, M, ps, ns), cls, tp, im) → Q (some (.int (oSeed x n).1)) h') : Calls d nX12_seed [.ref m, .int n] h (hN h) (hU h) Q := by
  obtain ⟨e, rfl⟩ : ∃ e, d = e + 1 := ⟨d - 1, by omega⟩
  have HM := H.mod
  have s5 : hI h (m + 1) 5 = x := H.2.1.2.1.2.2.2.2.2.1
  refine wX12_seed (by omega) m n ?_
  simp only [rt_i, rt_b0, rt_b1, rt_v, rt_l, rt_o, rt_a, rV_none, rI_some, rL_some, rR_some, rT_some, rt_bI, hIf_sL, hIf_sR, hS_sI, hS_sL, hS_sR, hS_cpI, hR_sI, hR_sL, hR_cpI, hL_sI, hL_sR, hL_cpI, hI_sL, hI_sR, hN_sI, hN_sL, hN_sR, hN_cpI, hU_sI, hU_sL, hU_sR, hU_cpI, tn0, tn1, tn2, tn3, tn4, tn5, tn6, tn7, tn8, tn9, tn10, tn11, tn12, tn13, tn14, tn15, tn16, tn17, tn18, tn19, tn20, tn21, tn22, tn23, tn24, tn25, tn26, tn27, tn28, tn29, tn30, tn31, tn32, tn33, tn34, tn35, tn36, tn37, tn38, tn39, tn40, tn41, tn42, tn43, tn44, tn45, tn46, tn47, tn48, tn49, tn50, tn51, tn52, tn53, tn54, tn55, tn56, tn57, tn58, tn59, tn60, lH_eq, true_and, and_true, mdq_0 HM, mdq_1 HM, mds_1 HM, vl7_0, vl7_1, vl7_2, vl7_3, vl7_4, vl7_5, vl7_6, s5]
  unfold oSeed at k
  refine ⟨fun z => ?_, fun z => ?_⟩
  · rw [if_pos z] at k
    have f : Fr' h (sI h (m + 1) 5 n) (fun c => c = m + 1) := Fr'.sI rfl
    exact k _ f (H.up f (fun c z => by omega) (fun j _ => by rw [hI_sI, if_neg (by omega)]) H.2.1.seed)
  · rw [if_neg z] at k
    exact k h (Fr'.refl _ _) H
def oRunner (nr : Nat) (M : PC) (q w : Int32) : Int32 := if (0 ≤ q ∧ q < nI nr) ∧ (0 ≤ w ∧ w ≤ 2) then (if w = 0 then M 1 q.toNatClampNeg else if w = 1 then M 2 q.toNatClampNeg else M 3 q.toNatClampNeg) else -1000
theorem m_runner {d : Nat} {h : AH} {Q : Option Value → AH → Prop} (hd : 7 ≤ d) (m nr nw : Nat) (A M : PC) (R : Option (List (List (Nat × Nat) × List (Nat × Nat)))) (q w : Int32) (H : QK h m nr nw A M R) (k : Q (some (.int (oRunner nr M q w))) h) : Calls d nX12_runner [.ref m, .int q, .int w] h (hN h) (hU h) Q := by
  obtain ⟨e, rfl⟩ : ∃ e, d = e + 1 := ⟨d - 1, by omega⟩
  obtain ⟨HC, H5, hr5, hw6, hh⟩ := H
  have HM := HC.1
  unfold oRunner at k
  refine wX12_runner (by omega) m q w ?_
  simp only [rt_i, rt_b0, rt_b1, rt_v, rt_l, rt_o, rt_a, rV_none, rI_some, rL_some, rR_some, rT_some, rt_bI, hIf_sL, hIf_sR, hS_sI, hS_sL, hS_sR, hS_cpI, hR_sI, hR_sL, hR_cpI, hL_sI, hL_sR, hL_cpI, hI_sL, hI_sR, hN_sI, hN_sL, hN_sR, hN_cpI, hU_sI, hU_sL, hU_sR, hU_cpI, tn0, tn1, tn2, tn3, tn4, tn5, tn6, tn7, tn8, tn9, tn10, tn11, tn12, tn13, tn14, tn15, tn16, tn17, tn18, tn19, tn20, tn21, tn22, tn23, tn24, tn25, tn26, tn27, tn28, tn29, tn30, tn31, tn32, tn33, tn34, tn35, tn36, tn37, tn38, tn39, tn40, tn41, tn42, tn43, tn44, tn45, tn46, tn47, tn48, tn49, tn50, tn51, tn52, tn53, tn54, tn55, tn56, tn57, tn58, tn59, tn60, lH_eq, true_and, and_true, mdq_0 HM]
  refine m_isRunner (by omega) m nr q HM HC.2.1.1 hr5 ?_
  simp only [rI_some, bI0, true_and]
  refine ⟨fun z => by rwa [if_neg (fun y => z y.1)] at k, fun z => ?_⟩
  refine m_in32 (by omega) w 0 2 rfl rfl rfl ?_
  simp only [rI_some, bI0, true_and]
  have z := Decidable.not_not.mp z
  refine ⟨fun y => ?_, fun y => by rwa [if_neg (fun x => y x.2)] at k⟩
  rw [if_pos ⟨z, Decidable.not_not.mp y⟩] at k
  obtain ⟨r, hr, rfl⟩ := rn_of (by omega) z
  rw [nI_clamp (by omega)] at k
  have e := HC.2.2.1.2.1 r hr
  have e1 : hI h (m + 4) r = M 1 r := e.1
  have e2 : hI h (m + 2) r = M 2 r := e.2.1
  have e3 : hI h (m + 3) r = M 3 r := e.2.2
  simp only [rt_i, rt_b0, rt_b1, rt_v, rt_l, rt_o, rt_a, rV_none, rI_some, rL_some, rR_some, rT_some, rt_bI, hIf_sL, hIf_sR, hS_sI, hS_sL, hS_sR, hS_cpI, hR_sI, hR_sL, hR_cpI, hL_sI, hL_sR, hL_cpI, hI_sL, hI_sR, hN_sI, hN_sL, hN_sR, hN_cpI, hU_sI, hU_sL, hU_sR, hU_cpI, tn0, tn1, tn2, tn3, tn4, tn5, tn6, tn7, tn8, tn9, tn10, tn11, tn12, tn13, tn14, tn15, tn16, tn17, tn18, tn19, tn20, tn21, tn22, tn23, tn24, tn25, tn26, tn27, tn28, tn29, tn30, tn31, tn32, tn33, tn34, tn35, tn36, tn37, tn38, tn39, tn40, tn41, tn42, tn43, tn44, tn45, tn46, tn47, tn48, tn49, tn50, tn51, tn52, tn53, tn54, tn55, tn56, tn57, tn58, tn59, tn60, lH_eq, true_and, and_true, mdq_0 HM, mdq_2 HM, mds_2 HM, mdq_3 HM, mds_3 HM, mdq_4 HM, mds_4 HM, vp_in_nI (show r < 5 by omega) (show 5 < 2 ^ 31 by omega), nI_clamp (show r < 2 ^ 31 by omega), e1, e2, e3]
  refine ⟨fun x => ⟨fun v => ?_, fun v => ?_⟩, fun x => ?_⟩
  · rwa [if_neg x, if_neg v] at k
  · rwa [if_neg x, if_pos v] at k
  · rwa [if_pos x] at k
def oWare (nw : Nat) (A M : PC) (q w : Int32) : Int32 := if 0 ≤ q ∧ q < nI nw then (if w = 0 then M 4 q.toNatClampNeg else if w = 1 then A 4 q.toNatClampNeg else if w = 2 then A 5 q.toNatClampNeg else if w = 3 then (if thB (A 5) (M 0 0) q.toNatClampNeg = true then 1 else 0) else if w = 4 then M 5 q.toNatClampNeg else -2) else -2
theorem m_ware {d : Nat} {h : AH} {Q : Option Value → AH → Prop} (hd : 7 ≤ d) (m nr nw : Nat) (A M : PC) (R : Option (List (List (Nat × Nat) × List (Nat × Nat)))) (q w : Int32) (H : QK h m nr nw A M R) (k : Q (some (.int (oWare nw A M q w))) h) : Calls d nX12_ware [.ref m, .int q, .int w] h (hN h) (hU h) Q := by
  obtain ⟨e, rfl⟩ : ∃ e, d = e + 1 := ⟨d - 1, by omega⟩
  obtain ⟨HC, H5, hr5, hw6, hh⟩ := H
  have HM := HC.1
  unfold oWare at k
  refine wX12_ware (by omega) m q w ?_
  simp only [rt_i, rt_b0, rt_b1, rt_v, rt_l, rt_o, rt_a, rV_none, rI_some, rL_some, rR_some, rT_some, rt_bI, hIf_sL, hIf_sR, hS_sI, hS_sL, hS_sR, hS_cpI, hR_sI, hR_sL, hR_cpI, hL_sI, hL_sR, hL_cpI, hI_sL, hI_sR, hN_sI, hN_sL, hN_sR, hN_cpI, hU_sI, hU_sL, hU_sR, hU_cpI, tn0, tn1, tn2, tn3, tn4, tn5, tn6, tn7, tn8, tn9, tn10, tn11, tn12, tn13, tn14, tn15, tn16, tn17, tn18, tn19, tn20, tn21, tn22, tn23, tn24, tn25, tn26, tn27, tn28, tn29, tn30, tn31, tn32, tn33, tn34, tn35, tn36, tn37, tn38, tn39, tn40, tn41, tn42, tn43, tn44, tn45, tn46, tn47, tn48, tn49, tn50, tn51, tn52, tn53, tn54, tn55, tn56, tn57, tn58, tn59, tn60, lH_eq, true_and, and_true, mdq_0 HM]
  refine m_isWare (by omega) m nw q HM HC.2.1.2.1 hw6 ?_
  simp only [rI_some, bI0]
  refine ⟨fun z => ?_, fun z => ?_⟩
  · have z := Decidable.not_not.mp z
    rw [if_pos z] at k
    obtain ⟨r, hr, rfl⟩ := rn_of (by omega) z
    rw [nI_clamp (by omega)] at k
    have hA : hilOk nr nw A := by
      rcases hh with y | y
      · omega
      · exact y.1
    have e := HC.2.2.1.2.2 r hr
    have e4 : hI h (m + 5) r = M 4 r := e.1
    have e5 : hI h (m + 6) r = M 5 r := e.2
    have a := HC.2.1.2.2.1.2 r hr
    have a4 : hI h (m + 7) r = A 4 r := a.1
    have a5 : hI h (m + 8) r = A 5 r := a.2
    have h13 : hI h (m + 1) 3 = M 0 0 := HC.2.2.1.1
    simp only [rt_i, rt_b0, rt_b1, rt_v, rt_l, rt_o, rt_a, rV_none, rI_some, rL_some, rR_some, rT_some, rt_bI, hIf_sL, hIf_sR, hS_sI, hS_sL, hS_sR, hS_cpI, hR_sI, hR_sL, hR_cpI, hL_sI, hL_sR, hL_cpI, hI_sL, hI_sR, hN_sI, hN_sL, hN_sR, hN_cpI, hU_sI, hU_sL, hU_sR, hU_cpI, tn0, tn1, tn2, tn3, tn4, tn5, tn6, tn7, tn8, tn9, tn10, tn11, tn12, tn13, tn14, tn15, tn16, tn17, tn18, tn19, tn20, tn21, tn22, tn23, tn24, tn25, tn26, tn27, tn28, tn29, tn30, tn31, tn32, tn33, tn34, tn35, tn36, tn37, tn38, tn39, tn40, tn41, tn42, tn43, tn44, tn45, tn46, tn47, tn48, tn49, tn50, tn51, tn52, tn53, tn54, tn55, tn56, tn57, tn58, tn59, tn60, lH_eq, true_and, and_true, mdq_0 HM, mdq_5 HM, mds_5 HM, mdq_6 HM, mds_6 HM, mdq_7 HM, mds_7 HM, mdq_8 HM, mds_8 HM, vp_in_nI (show r < 6 by omega) (show 6 < 2 ^ 31 by omega), nI_clamp (show r < 2 ^ 31 by omega), e4, e5, a4, a5]
    refine ⟨fun x => ?_, fun x => ?_⟩
    · rwa [if_pos x] at k
    rw [if_neg x] at k
    refine ⟨fun x => ?_, fun x => ?_⟩
    · rwa [if_pos x] at k
    rw [if_neg x] at k
    refine ⟨fun x => ?_, fun x => ?_⟩
    · rwa [if_pos x] at k
    rw [if_neg x] at k
    refine ⟨fun x => ?_, fun x => ?_⟩
    · rw [if_pos x] at k
      refine m_isThere (by omega) m r HM (by omega) (by rw [a5]; exact pos_of (hA.2.2.2.2 r hr).2.2.1) ?_
      simp only [rI_some, bI0, a5, h13, rt_i, rt_b0, rt_b1, rt_v, rt_l, rt_o, rt_a, rV_none, rI_some, rL_some, rR_some, rT_some, rt_bI, hIf_sL, hIf_sR, hS_sI, hS_sL, hS_sR, hS_cpI, hR_sI, hR_sL, hR_cpI, hL_sI, hL_sR, hL_cpI, hI_sL, hI_sR, hN_sI, hN_sL, hN_sR, hN_cpI, hU_sI, hU_sL, hU_sR, hU_cpI, tn0, tn1, tn2, tn3, tn4, tn5, tn6, tn7, tn8, tn9, tn10, tn11, tn12, tn13, tn14, tn15, tn16, tn17, tn18, tn19, tn20, tn21, tn22, tn23, tn24, tn25, tn26, tn27, tn28, tn29, tn30, tn31, tn32, tn33, tn34, tn35, tn36, tn37, tn38, tn39, tn40, tn41, tn42, tn43, tn44, tn45, tn46, tn47, tn48, tn49, tn50, tn51, tn52, tn53, tn54, tn55, tn56, tn57, tn58, tn59, tn60, lH_eq, true_and, and_true, ← thB_t]
      refine ⟨fun v => ?_, fun v => ?_⟩
      · rwa [if_neg v] at k
      · rwa [if_pos (Decidable.not_not.mp v)] at k
    rw [if_neg x] at k
    refine ⟨fun x => ?_, fun x => ?_⟩
    · rwa [if_pos x] at k
    rwa [if_neg x] at k
  · rw [if_neg z] at k
    exact ⟨trivial, trivial, k⟩
