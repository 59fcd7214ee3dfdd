theorem st7_pile {p pa st : Nat} {pile : List Nat} {cl : List (List (Nat × Nat) × List (Nat × Nat))} {su s : List (Nat × Nat)} (I : mInv (p, st, pile, pa, cl, su, s)) (hs : st = 7 ∨ st = 8) : bOk pile ∧ dpt pile ≤ 10 ∧ hdT pile ≤ 3 := by
  obtain ⟨⟨A, G, B, e, hA, hB, hd, hG, hB0, hA0⟩, -⟩ := I
  have e1 := hA0 (by omega)
  have e2 := hG.2 (by omega)
  subst e1 e2
  have e : pile = B := e
  subst e
  exact ⟨hB, hd, hB.hd⟩
theorem m_compared {d : Nat} {h : AH} {Q : Option Value → AH → Prop} (hd : 11 ≤ d) (m n r p pa : Nat) (t : Nat → Int32) (R : Int32 × List (List (Nat × Nat) × List (Nat × Nat))) (pile : List Nat) (cl : List (List (Nat × Nat) × List (Nat × Nat))) (su s : List (Nat × Nat)) (ems : mstep t n (p, 7, pile, pa, cl, su, s) = mval t n (sk t n p) 4 pile pa cl su s) (H : MM h m n r t (p, 7, pile, pa, cl, su, s)) (hrn : rnM t n (p, 7, pile, pa, cl, su, s) = R) (e30 : hI h m 30 = 12) (k : ∀ h', FRm h h' m r → BP h' m n r t R 8 pile cl su s 5 → Q none h') : Calls d nX12_compared [.ref m] h (hN h) (hU h) Q := by
  obtain ⟨e, rfl⟩ : ∃ e, d = e + 1 := ⟨d - 1, by omega⟩
  have hp3 := (st7_pile H.2.2.2.2.2.2 (Or.inl rfl)).2.2
  refine wX12_compared (by omega) m ?_
  refine ⟨by rw [mdq_0 H.1.1], m_sum (by omega) m n r p 7 4 pa t R pile cl su s (Or.inr (Or.inr (Or.inr ⟨rfl, rfl⟩))) (by omega) ems H hrn e30 (fun h1 f1 B => ?_)⟩
  rw [rV_none]
  rcases B with V | ⟨p', pa', x, V, hsk', rn3, t5⟩
  · exact cmA (by omega) m n r t R.1 V (f1.m30.trans e30) f1.1.2.2.1 f1.1.2.2.2.1 (fun h' f' H' => k h' (f1.trans f') (Or.inl H'))
  · have hB := V.1.2.2.2.2
    have hn4 := V.1.2.2.1
    have hp' := V.2.1.2
    have e22 : hI h1 m 22 = nI p' := V.2.1.1
    have e301 := f1.m30.trans e30
    refine ⟨by rw [mdq_0 V.1.1], m_sign (by omega) m n p' t V.1 (by omega) e22 ?_⟩
    rw [rI_some]
    have go : ∀ v1, sgF t n p' = v1 → (v1 = 60 ∨ v1 = 61 ∨ v1 = 62) → Reach e nX12_compared (37, [.ref m, .int (sgF t n p'), .float 0], []) h1 (hN h) (hU h) Q := fun v1 hv hc => by
      rw [hv]
      exact cm37 (by omega) m n r p' pa' v1 t R pile cl su (s ++ x) hp3 hsk' V rn3 e301 hc hv f1.1.2.2.1 f1.1.2.2.2.1 (fun h' f' B => k h' (f1.trans f') B.app)
    refine ⟨fun z => go 60 z (Or.inl rfl), fun c0 => ⟨fun z => go 61 z (Or.inr (Or.inl rfl)), fun c1 => ⟨fun z => go 62 z (Or.inr (Or.inr rfl)), fun c2 => ?_⟩⟩⟩
    refine ⟨by rw [mdq_0 V.1.1], by rw [mdq_0 V.1.1], ?_⟩
    rw [e22]
    have em : mstep t n (p', 4, pile, pa', cl, su, s ++ x) = .inl (rfF 0 p' 0, []) := by
      have e1 : mstep t n (p', 4, pile, pa', cl, su, s ++ x) = mgo t n (sk t n p') 4 pile pa' cl su (s ++ x) := rfl
      have n4 := cmp_n hB c0 c1 c2
      rw [e1, hsk']
      unfold mgo
      rw [if_neg (fun z => by omega), if_neg (fun z => n4 z.1), if_neg (fun z => by omega), if_neg (fun z => by omega), if_neg (fun z => by omega), if_neg (fun z => by omega)]
    have eR : R = (rfF 0 p' 0, []) := by rw [← rn3]; exact rnM_out hp' em
    have ne : rfF 0 p' 0 ≠ 0 := rfF_ne (fa := 0) (q := p') (c := 0) (by omega) (by omega)
    refine m_fails (by omega) m 0 p' V.1.1 (fun h2 f2 g1 g2 => ?_)
    rw [V.2.2.1] at g2
    rw [rV_none, rt_v]
    have F : FRm h h2 m r := f1.trans (FRm.m f2 (fun j _ b _ _ _ _ => g1 j b))
    exact ⟨F.1.2.2.1, F.1.2.2.2.1, k h2 F (Or.inl ⟨V.1.fr f2 (g1 21 (by decide)) (by omega), ⟨p', hp', (g1 22 (by decide)).trans e22⟩, by rw [eR]; exact g2, by rw [eR]; exact ne⟩)⟩
/-- the row of what is open -/
def OpIs (f : Nat → Int32) : List Nat → Prop
  | [] => True
  | k :: l => f l.length = nI k ∧ OpIs f l
theorem OpIs.cg {f g : Nat → Int32} : ∀ {l : List Nat}, OpIs f l → (∀ j, j < l.length → g j = f j) → OpIs g l
  | [], _, _ => trivial
  | k :: l, h, e => ⟨(e l.length (by simp)).trans h.1, OpIs.cg h.2 (fun j hj => e j (by simp; omega))⟩
def OP (h : AH) (m : Nat) (pile : List Nat) : Prop := hI h m 29 = nI pile.length ∧ hI h m 27 = nI (dpt pile) ∧ OpIs (hI h (m + 28)) pile
def FRo (h h' : AH) (m r : Nat) : Prop := Fr' h h' (fun c => c = m ∨ c = m + 22 ∨ c = m + 23 ∨ c = m + 28) ∧ (∀ j, j ≠ 22 → j ≠ 23 → j ≠ 26 → j ≠ 27 → j ≠ 28 → j ≠ 29 → hI h' m j = hI h m j) ∧ (∀ j, j < 300 * r ∨ 300 * r + 300 ≤ j → hI h' (m + 22) j = hI h (m + 22) j ∧ hI h' (m + 23) j = hI h (m + 23) j)
theorem FRo.refl (h : AH) (m r : Nat) : FRo h h m r := ⟨Fr'.refl _ _, fun _ _ _ _ _ _ _ => rfl, fun _ _ => ⟨rfl, rfl⟩⟩
theorem FRo.trans {h h1 h2 : AH} {m r : Nat} (a : FRo h h1 m r) (b : FRo h1 h2 m r) : FRo h h2 m r := ⟨a.1.trans b.1, fun j c1 c2 c3 c4 c5 c6 => (b.2.1 j c1 c2 c3 c4 c5 c6).trans (a.2.1 j c1 c2 c3 c4 c5 c6), fun j hj => ⟨(b.2.2 j hj).1.trans (a.2.2 j hj).1, (b.2.2 j hj).2.trans (a.2.2 j hj).2⟩⟩
theorem FRm.o {h h' : AH} {m r : Nat} (f : FRm h h' m r) : FRo h h' m r := ⟨f.1.mono (fun c z => by rcases z with z | z | z | z; all_goals first | exact z.elim | omega), fun j a b c _ d _ => f.2.1 j a b c trivial d trivial, f.2.2⟩
theorem FRo.m30 {h h' : AH} {m r : Nat} (f : FRo h h' m r) : hI h' m 30 = hI h m 30 := f.2.1 30 (by decide) (by decide) (by decide) (by decide) (by decide) (by decide)
theorem OP.frm {h h' : AH} {m r : Nat} {pile : List Nat} (H : OP h m pile) (f : FRm h h' m r) : OP h' m pile := ⟨(f.2.1 29 (by decide) (by decide) (by decide) (by decide) (by decide) (by decide)).trans H.1, (f.2.1 27 (by decide) (by decide) (by decide) (by decide) (by decide) (by decide)).trans H.2.1, H.2.2.cg (fun j _ => f.1.2.2.2.2.1 (m + 28) (fun z => by rcases z with z | z | z | z; all_goals first | omega | exact z) j)⟩
def tpV : List Nat → Int32
  | [] => -1
  | j :: _ => nI j
theorem m_top {d : Nat} {h : AH} {Q : Option Value → AH → Prop} (hd : 5 ≤ d) (m : Nat) (pile : List Nat) (HM : ModAt h m) (O : OP h m pile) (hl : pile.length ≤ 35) (k : Q (some (.int (tpV pile))) h) : Calls d nX12_top [.ref m] h (hN h) (hU h) Q := by
  obtain ⟨e, rfl⟩ : ∃ e, d = e + 1 := ⟨d - 1, by omega⟩
  refine wX12_top (by omega) m ?_
  cases pile with
  | nil =>
    have e29 : hI h m 29 = 0 := O.1
    simp only [rt_i, rt_b0, rt_b1, rt_v, rt_l, rt_o, rt_a, rV_none, rI_some, rL_some, rR_some, rT_some, mdq_0 HM, e29, true_and]
    exact ⟨fun z => by first | exact absurd rfl z | exact absurd trivial z, fun _ => k⟩
  | cons j l =>
    have hl' : l.length < 35 := by simp at hl; omega
    have e29 : hI h m 29 = nI (l.length + 1) := by rw [O.1]; simp
    have e0 : (nI (l.length + 1) = (0 : Int32)) = (l.length + 1 = 0) := nI_eq_iff (b := 0) (by omega) (by decide)
    have s1 : nI (l.length + 1) - 1 = nI l.length := nI_sub1 _
    simp only [rt_i, rt_b0, rt_b1, rt_v, rt_l, rt_o, rt_a, rV_none, rI_some, rL_some, rR_some, rT_some, mdq_0 HM, mdq_38 HM, mds_38 HM, e29, e0, s1, vp_in_nI (show l.length < 402 by omega) (show 402 < 2 ^ 31 by omega), nI_clamp (show l.length < 2 ^ 31 by omega), O.2.2.1, true_and]
    exact ⟨fun _ => k, fun z => absurd z (by omega)⟩
