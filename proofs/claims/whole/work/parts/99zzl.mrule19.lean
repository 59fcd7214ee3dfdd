theorem MTp.w {h : AH} {m n b i : Nat} {v : Int32} {t : Nat → Int32} (H : MTp h m n t) (hb : m + 25 ≤ b ∧ b ≤ m + 27) : MTp (sI h b i v) m n t := H.fr (Fr'.sI (S := fun c => c = b) rfl) (by rw [hI_sI, if_neg (by omega)]) (by omega)
theorem MFx.w {h : AH} {m n b i : Nat} {v fa : Int32} {t : Nat → Int32} (H : MFx h m n t fa) (hb : m + 25 ≤ b ∧ b ≤ m + 27) : MFx (sI h b i v) m n t fa := by
  obtain ⟨a, ⟨p, h1, h2⟩, h3, h4⟩ := H
  have g : ∀ j, hI (sI h b i v) m j = hI h m j := fun j => by rw [hI_sI, if_neg (by omega)]
  exact ⟨a.w hb, ⟨p, h1, (g 22).trans h2⟩, (g 23).trans h3, h4⟩
theorem ES.w {h : AH} {m r b i : Nat} {v : Int32} {l : List (Nat × Nat)} (H : ES h m r l) (hb : m + 25 ≤ b ∧ b ≤ m + 27) : ES (sI h b i v) m r l := H.cg (by rw [hI_sI, if_neg (by omega)]) (fun j => by rw [hI_sI, if_neg (by omega)]) (fun j => by rw [hI_sI, if_neg (by omega)])
theorem MM.w {h : AH} {m n r b i : Nat} {v : Int32} {t : Nat → Int32} {σ : MS} (H : MM h m n r t σ) (hb : m + 25 ≤ b ∧ b ≤ m + 27) : MM (sI h b i v) m n r t σ := by
  obtain ⟨p, st, pile, pa, cl, su, s⟩ := σ
  obtain ⟨a, ⟨h1, h2⟩, h3, ⟨h4, h5⟩, h6, h7, h8⟩ := H
  have g : ∀ j, hI (sI h b i v) m j = hI h m j := fun j => by rw [hI_sI, if_neg (by omega)]
  exact ⟨a.w hb, ⟨(g 22).trans h1, h2⟩, (g 23).trans h3, ⟨(g 24).trans h4, h5⟩, h6.w hb, (g 28).trans h7, h8⟩
def RCp (h : AH) (m n r : Nat) (t : Nat → Int32) (R : Int32 × List (List (Nat × Nat) × List (Nat × Nat))) (cl : List (List (Nat × Nat) × List (Nat × Nat))) : Prop := MFx h m n t R.1 ∨ ∃ p pa c, MTp h m n t ∧ (hI h m 22 = nI p ∧ p ≤ n) ∧ hI h m 23 = 0 ∧ (hI h m 24 = nI r ∧ r < 6) ∧ ES h m r (flK (cl ++ [c])) ∧ hI h m 28 = nI pa ∧ hI h m 27 = nI 0 ∧ SA h m r (cl ++ [c]) ∧ cl.length ≤ 11 ∧ CE t n p pa cl c R
theorem FRm.r {h h' : AH} {m r : Nat} (f : FRm h h' m r) : FRr h h' m r := f.o.r
/-- the sum is read: rows of places at r, j -/
theorem rc_two {h8 : AH} {m n r p pa : Nat} {t : Nat → Int32} {R : Int32 × List (List (Nat × Nat) × List (Nat × Nat))} {cl : List (List (Nat × Nat) × List (Nat × Nat))} {st : Nat} {su s : List (Nat × Nat)} (H : MM h8 m n r t (p, st, [], pa, cl, su, s)) (hA : SA h8 m r cl) (e27 : hI h8 m 27 = nI 0) (h25 : hI h8 (m + 25) (12 * r + cl.length) = nI (flK cl).length) (h26 : hI h8 (m + 26) (12 * r + cl.length) = nI ((flK cl).length + (if st = 2 then s else su).length)) (hsu : st = 2 → su = []) (hst0 : st ≠ 0) (C : CE t n p pa cl (if st = 2 then (s, []) else (su, s)) R) : RCp (sI h8 (m + 27) (12 * r + cl.length) (hI h8 m 26)) m n r t R cl := by
  have hb : m + 25 ≤ m + 27 ∧ m + 27 ≤ m + 27 := by omega
  have l11 : cl.length ≤ 11 := H.2.2.2.2.2.2.2.1.2.2.2 hst0
  obtain ⟨T, ⟨e22, hp⟩, e23, ⟨e24, hr⟩, E, e28, I⟩ := H
  have g : ∀ j, hI (sI h8 (m + 27) (12 * r + cl.length) (hI h8 m 26)) m j = hI h8 m j := fun j => by rw [hI_sI, if_neg (by omega)]
  have e26 := E.1
  refine Or.inr ⟨p, pa, if st = 2 then (s, []) else (su, s), T.w hb, ⟨(g 22).trans e22, hp⟩, (g 23).trans e23, ⟨(g 24).trans e24, hr⟩, ?_, (g 28).trans e28, (g 27).trans e27, SA.add (hA.cg (fun b h1 h2 j h3 h4 => ?_)) ?_ ?_ ?_, l11, C⟩
  · rw [flK_app]
    by_cases c : st = 2
    · have E' := E.w (v := hI h8 m 26) (i := 12 * r + cl.length) hb
      rw [hsu c, List.append_nil] at E'
      rw [if_pos c, List.append_nil]
      exact E'
    · rw [if_neg c]
      exact E.w hb
  · rw [hI_sI]
    split
    · rw [if_neg (by omega)]
    · rfl
  · rw [hI_sI, if_neg (by omega)]; exact h25
  · rw [hI_sI, if_neg (by omega), h26]
    by_cases c : st = 2
    · rw [if_pos c, if_pos c]
    · rw [if_neg c, if_neg c]
  · rw [hI_sI, if_pos rfl, if_pos rfl, e26]
    by_cases c : st = 2
    · rw [if_pos c, hsu c]; simp
    · rw [if_neg c, List.length_append, List.length_append]
theorem m_takes {d : Nat} {h : AH} {Q : Option Value → AH → Prop} (hd : 7 ≤ d) (m n p kk v : Nat) (t : Nat → Int32) (hv : v = stI kk) (hk : kk < 18) (H : MTp h m n t) (hp : p ≤ n) (e22 : hI h m 22 = nI p) (hsk : sk t n p = p) (k1 : isWd t n p kk → ∀ h', Fr' h h' (fun c => c = m) → (∀ j, j ≠ 22 → hI h' m j = hI h m j) → hI h' m 22 = nI (tkE t n p) → Q (some (.int 1)) h') (k0 : ¬ isWd t n p kk → ∀ h', Fr' h h' (fun c => c = m) → (∀ j, hI h' m j = hI h m j) → Q (some (.int 0)) h') : Calls d nX12_takes [.ref m, .retAddr v] h (hN h) (hU h) Q := by
  obtain ⟨e, rfl⟩ : ∃ e, d = e + 1 := ⟨d - 1, by omega⟩
  subst hv
  obtain ⟨s1, s2, s3, s4, s5⟩ := stI_ok kk hk
  refine wX12_takes (by omega) m (stI kk) ⟨by rw [mdq_0 H.1], m_blanks (by omega) m n p t H hp e22 (fun h1 f1 g1 g2 => ?_)⟩
  rw [hsk] at g2
  have T1 := H.fr f1 (g1 21 (by decide)) (by omega)
  rw [rV_none]
  refine ⟨by rw [mdq_0 T1.1], m_stood (by omega) m n p kk _ t rfl T1 hk hp g2 ?_⟩
  have iw := isWd_eq (t := t) (n := n) (q := p) (k := kk) hk hp
  rw [rI_some]
  by_cases c : isWd t n p kk
  · have c' : eqW t p (ru isLt t n p) kk := by rw [← iw]; exact c
    rw [bI_pos c']
    refine ⟨by rw [mdq_0 T1.1], fun z => absurd z (by decide), fun _ => ⟨s1, by rw [mdq_0 T1.1], ?_⟩⟩
    have eo : Int32.ofNat (wd kk).length = nI (wd kk).length := rfl
    have ad : nI p + nI (wd kk).length = nI (tkE t n p) := by rw [nI_add, c.2.1]
    rw [g2, s3, eo, ad, lH_eq, rt_b1]
    have f2 : Fr' h (sI h1 m 22 (nI (tkE t n p))) (fun c => c = m) := f1.trans (Fr'.sI rfl)
    exact ⟨f2.2.2.1, f2.2.2.2.1, k1 c _ f2 (fun j hj => by rw [hI_sI, if_pos rfl, if_neg hj]; exact g1 j hj) (by rw [hI_sI, if_pos rfl, if_pos rfl])⟩
  · have c' : ¬ eqW t p (ru isLt t n p) kk := by rw [← iw]; exact c
    rw [bI_neg c']
    refine ⟨by rw [mdq_0 T1.1], fun _ => ⟨by rw [mdq_0 T1.1], ?_⟩, fun z => absurd rfl z⟩
    rw [g2, Int32.add_zero, lH_eq, rt_b0]
    have f2 : Fr' h (sI h1 m 22 (nI p)) (fun c => c = m) := f1.trans (Fr'.sI rfl)
    refine ⟨f2.2.2.1, f2.2.2.2.1, k0 c _ f2 (fun j => ?_)⟩
    by_cases z : j = 22
    · rw [z, hI_sI, if_pos rfl, if_pos rfl, e22]
    · rw [hI_sI, if_pos rfl, if_neg z]; exact g1 j z
theorem m_ruleClause {d : Nat} {h : AH} {Q : Option Value → AH → Prop} (hd : 14 ≤ d) (m n r p pa : Nat) (t : Nat → Int32) (R : Int32 × List (List (Nat × Nat) × List (Nat × Nat))) (cl : List (List (Nat × Nat) × List (Nat × Nat))) (H : MM h m n r t (p, 0, [], pa, cl, [], [])) (e27 : hI h m 27 = nI 0) (hA : SA h m r cl) (hrn : rnM t n (p, 0, [], pa, cl, [], []) = R) (e30 : hI h m 30 = 12) (k : ∀ h', FRr h h' m r → RCp h' m n r t R cl → Q none h') : Calls d nX12_ruleClause [.ref m, .int (nI cl.length)] h (hN h) (hU h) Q := by
  obtain ⟨e, rfl⟩ : ∃ e, d = e + 1 := ⟨d - 1, by omega⟩
  have hB := H.1.2.2.2.2
  have hn4 := H.1.2.2.1
  have hp := H.2.1.2
  have hr : r < 6 := H.2.2.2.1.2
  have l12 : cl.length ≤ 12 := H.2.2.2.2.2.2.2.1.2.2.1
  have hq : sk t n p ≤ n := ru_le hp
  have c12 : (nI cl.length = (12 : Int32)) = (cl.length = 12) := nI_eq_iff (b := 12) (by omega) (by decide)
  refine wX12_ruleClause (by omega) m (nI cl.length) ?_
  simp only [mdq_0 H.1.1, true_and]
  refine m_blanks (by omega) m n p t H.1 hp H.2.1.1 (fun h1 f1 g1 g2 => ?_)
  have FR1 : FRm h h1 m r := FRm.m f1 (fun j a _ _ _ _ _ => g1 j a)
  have M1 := H.sk f1 g1 g2 ru_ge hq
  have rn1 := (rn_sk (pile := []) (st := 0) (pa := pa) (cl := cl) (su := []) (s := []) hp).trans hrn
  have skk : sk t n (sk t n p) = sk t n p := ru_ru hp
  have e301 := FR1.m30.trans e30
  have hA1 := hA.fro FR1.o
  have e271 := (g1 27 (by decide)).trans e27
  generalize sk t n p = q at *
  have T1 := M1.1
  have hqn : ((q, 0, [], pa, cl, [], []) : MS).1 ≤ n := hq
  have e1 : mstep t n (q, 0, [], pa, cl, [], []) = (if isWd t n q 13 then (if 12 ≤ cl.length then .inl (rfF 0 q 4, []) else .inr (tkE t n q, 1, [], pa, cl, [], [])) else .inl (rfF 0 q 0, [])) := by
    have : mstep t n (q, 0, [], pa, cl, [], []) = (if isWd t n (sk t n q) 13 then (if 12 ≤ cl.length then .inl (rfF 0 (sk t n q) 4, []) else .inr (tkE t n (sk t n q), 1, [], pa, cl, [], [])) else .inl (rfF 0 (sk t n q) 0, [])) := rfl
    rw [this, skk]
  have bad : ∀ c, c < 8 → mstep t n (q, 0, [], pa, cl, [], []) = .inl (rfF 0 q c, []) → Calls e nX12_fails [.ref m, .int (nI c), .int (nI q)] h1 (hN h1) (hU h1) (fun r20 h19 => rV r20 (RtOf none (hN h) (hU h) Q none h19)) := fun c hc em => by
    have eR : R = (rfF 0 q c, []) := by rw [← rn1]; exact rnM_out hqn em
    refine m_fails (by omega) m c q T1.1 (fun h2 f2 g3 e2 => ?_)
    rw [M1.2.2.1] at e2
    have FR2 : FRm h1 h2 m r := FRm.m f2 (fun j _ b _ _ _ _ => g3 j b)
    have F := (FR1.trans FR2).r
    rw [rV_none, rt_v]
    exact ⟨F.1.2.2.1, F.1.2.2.2.1, k h2 F (Or.inl ⟨T1.frm FR2, ⟨q, by omega, (g3 22 (by decide)).trans g2⟩, by rw [eR]; exact e2, by rw [eR]; exact rfF_ne (fa := 0) (q := q) (c := c) (by omega) hc⟩)⟩
  simp only [rV_none, mdq_0 T1.1, g2, true_and]
  refine m_stood (by omega) m n q 13 4 t rfl T1 (by decide) hq g2 ?_
  have iw := isWd_eq (t := t) (n := n) (q := q) (k := 13) (by decide) hq
  simp only [rI_some, bI0, mdq_0 T1.1, true_and, ← iw, c12]
  refine ⟨fun z => ⟨fun y => ?_, fun y => ?_⟩, fun z => ?_⟩
  · have z := Decidable.not_not.mp z
    rw [if_pos z, if_neg (by omega)] at e1
    have eE : tkE t n q = q + 3 := by
      have z' := z.2.1
      rw [show (wd 13).length = 3 by decide] at z'
      exact z'.symm
    have hE := (tkE_le (t := t) hq).2
    rw [eE] at e1 hE
    have I2 := mstep_inv M1.2.2.2.2.2.2 hqn e1
    have rn2 := (rnM_in hqn e1).symm.trans rn1
    have n3 : nI q + 3 = nI (q + 3) := by rw [show (3 : Int32) = nI 3 from rfl, nI_add]
    rw [g2, n3, lH_eq]
    have f2 : Fr' h1 (sI h1 m 22 (nI (q + 3))) (fun c => c = m) := Fr'.sI rfl
    have g3 : ∀ j, j ≠ 22 → hI (sI h1 m 22 (nI (q + 3))) m j = hI h1 m j := fun j hj => by rw [hI_sI, if_pos rfl, if_neg hj]
    have e222 : hI (sI h1 m 22 (nI (q + 3))) m 22 = nI (q + 3) := by rw [hI_sI, if_pos rfl, if_pos rfl]
    generalize sI h1 m 22 (nI (q + 3)) = h6 at *
    have FR6 : FRm h1 h6 m r := FRm.m f2 (fun j a _ _ _ _ _ => g3 j a)
    obtain ⟨-, -, e23, ⟨e24, -⟩, E, e28, -⟩ := M1
    have M6 : MM h6 m n r t (q + 3, 1, [], pa, cl, [], []) := ⟨T1.frm FR6, ⟨e222, hE⟩, (g3 23 (by decide)).trans e23, ⟨(g3 24 (by decide)).trans e24, hr⟩, E.cg (g3 26 (by decide)) (f2.2.2.2.2.1 (m + 22) (by omega)) (f2.2.2.2.2.1 (m + 23) (by omega)), (g3 28 (by decide)).trans e28, I2⟩
    have HM6 := M6.1.1
    have e246 : hI h6 m 24 = nI r := M6.2.2.2.1.1
    have e266 : hI h6 m 26 = nI (flK cl).length := by have := M6.2.2.2.2.1.1; simpa using this
    have ix : 12 * nI r + nI cl.length = nI (12 * r + cl.length) := by rw [show (12 : Int32) = nI 12 from rfl, pk_mul, nI_add]
    have jl : cl.length < 12 := by omega
    have F6 := (FR1.trans FR6).r
    have hA6 := hA1.fro FR6.o
    have e276 := (g3 27 (by decide)).trans e271
    have e306 := (FR6.m30).trans e301
    simp only [mdq_0 HM6, mdq_35 HM6, mds_35 HM6, e246, ix, vp_in_nI (show 12 * r + cl.length < 72 by omega) (show 72 < 2 ^ 31 by omega), nI_clamp (show 12 * r + cl.length < 2 ^ 31 by omega), lH_eq, hS_sI, true_and, e266]
    have b25 : m + 25 ≤ m + 25 ∧ m + 25 ≤ m + 27 := by omega
    have b26 : m + 25 ≤ m + 26 ∧ m + 26 ≤ m + 27 := by omega
    have b27 : m + 25 ≤ m + 27 ∧ m + 27 ≤ m + 27 := by omega
    have M7 := M6.w (v := nI (flK cl).length) (i := 12 * r + cl.length) b25
    have F7 := F6.trans (FRr.w (h := h6) (v := nI (flK cl).length) (r := r) b25 jl)
    have g7 : ∀ j, hI (sI h6 (m + 25) (12 * r + cl.length) (nI (flK cl).length)) m j = hI h6 m j := fun j => by rw [hI_sI, if_neg (by omega)]
    have h257 : hI (sI h6 (m + 25) (12 * r + cl.length) (nI (flK cl).length)) (m + 25) (12 * r + cl.length) = nI (flK cl).length := by rw [hI_sI, if_pos rfl, if_pos rfl]
    have hA7 : SA (sI h6 (m + 25) (12 * r + cl.length) (nI (flK cl).length)) m r cl := hA6.cg (fun b h1 h2 j h3 h4 => by
      rw [hI_sI]
      split
      · rw [if_neg (by omega)]
      · rfl)
    have e307 := (g7 30).trans e306
    have e277 := (g7 27).trans e276
    generalize sI h6 (m + 25) (12 * r + cl.length) (nI (flK cl).length) = h7 at *
    refine m_sum (by omega) m n r (q + 3) 1 2 pa t R [] cl [] [] (Or.inl ⟨rfl, rfl⟩) (by decide) rfl M7 rn2 e307 (fun h8 f8 B => ?_)
    rw [rV_none]
    have F8 := F7.trans f8.r
    have h258 : hI h8 (m + 25) (12 * r + cl.length) = nI (flK cl).length := (f8.1.2.2.2.2.1 (m + 25) (fun z => by rcases z with z | z | z | z; all_goals first | omega | exact z) _).trans h257
    have hA8 := hA7.fro f8.o
    have e308 := f8.m30.trans e307
    have e278 : hI h8 m 27 = nI 0 := (f8.2.1 27 (by decide) (by decide) (by decide) (by decide) (by decide) (by decide)).trans e277
    rcases B with V | ⟨p', pa', x, V, hsk', rn3, t5⟩
    · have HM8 := V.1.1
      have ne26 : (m = m + 26) = False := eq_false (by omega)
      have X8 : MFx (sI (sI h8 (m + 26) (12 * r + cl.length) (hI h8 m 26)) (m + 27) (12 * r + cl.length) (hI h8 m 26)) m n t R.1 := (V.x.w b26).w b27
      have F9 := (F8.trans (FRr.w (h := h8) (v := hI h8 m 26) (r := r) b26 jl)).trans (FRr.w (v := hI h8 m 26) (r := r) b27 jl)
      simp only [rt_i, rt_b0, rt_b1, rt_v, rt_l, rt_o, rt_a, rV_none, rI_some, rL_some, rR_some, rT_some, rt_bI, hIf_sL, hIf_sR, hS_sI, hS_sL, hS_sR, hS_cpI, hR_sI, hR_sL, hR_cpI, hL_sI, hL_sR, hL_cpI, hI_sL, hI_sR, hN_sI, hN_sL, hN_sR, hN_cpI, hU_sI, hU_sL, hU_sR, hU_cpI, tn0, tn1, tn2, tn3, tn4, tn5, tn6, tn7, tn8, tn9, tn10, tn11, tn12, tn13, tn14, tn15, tn16, tn17, tn18, tn19, tn20, tn21, tn22, tn23, tn24, tn25, tn26, tn27, tn28, tn29, tn30, tn31, tn32, tn33, tn34, tn35, tn36, tn37, tn38, tn39, tn40, tn41, tn42, tn43, tn44, tn45, tn46, tn47, tn48, tn49, tn50, tn51, tn52, tn53, tn54, tn55, tn56, tn57, tn58, tn59, tn60, lH_eq, true_and, and_true, mdq_0 HM8, mdq_36 HM8, mds_36 HM8, mdq_37 HM8, mds_37 HM8, vp_in_nI (show 12 * r + cl.length < 72 by omega) (show 72 < 2 ^ 31 by omega), nI_clamp (show 12 * r + cl.length < 2 ^ 31 by omega), hI_sI, ne26, if_false, V.2.2.1]
      exact ⟨fun _ => ⟨F9.1.2.2.1, F9.1.2.2.2.1, k _ F9 (Or.inl X8)⟩, fun z => absurd z V.2.2.2⟩
    · have HM8 := V.1.1
      have ne26 : (m = m + 26) = False := eq_false (by omega)
      have V : MM h8 m n r t (p', 2, [], pa', cl, [], x) := V
      have rn3 : rnM t n (p', 2, [], pa', cl, [], x) = R := rn3
      have e268 : hI h8 m 26 = nI ((flK cl).length + x.length) := by have := V.2.2.2.2.1.1; rw [List.append_nil, List.length_append] at this; exact this
      have M10 := V.w (v := nI ((flK cl).length + x.length)) (i := 12 * r + cl.length) b26
      have F10 := F8.trans (FRr.w (h := h8) (v := nI ((flK cl).length + x.length)) (r := r) b26 jl)
      have h2510 : hI (sI h8 (m + 26) (12 * r + cl.length) (nI ((flK cl).length + x.length))) (m + 25) (12 * r + cl.length) = nI (flK cl).length := by rw [hI_sI, if_neg (by omega)]; exact h258
      have h2610 : hI (sI h8 (m + 26) (12 * r + cl.length) (nI ((flK cl).length + x.length))) (m + 26) (12 * r + cl.length) = nI ((flK cl).length + x.length) := by rw [hI_sI, if_pos rfl, if_pos rfl]
      have g10 : ∀ j, hI (sI h8 (m + 26) (12 * r + cl.length) (nI ((flK cl).length + x.length))) m j = hI h8 m j := fun j => by rw [hI_sI, if_neg (by omega)]
      have hA10 : SA (sI h8 (m + 26) (12 * r + cl.length) (nI ((flK cl).length + x.length))) m r cl := hA8.cg (fun b h1 h2 j h3 h4 => by
        rw [hI_sI]
        split
        · rw [if_neg (by omega)]
        · rfl)
      simp only [rt_i, rt_b0, rt_b1, rt_v, rt_l, rt_o, rt_a, rV_none, rI_some, rL_some, rR_some, rT_some, rt_bI, hIf_sL, hIf_sR, hS_sI, hS_sL, hS_sR, hS_cpI, hR_sI, hR_sL, hR_cpI, hL_sI, hL_sR, hL_cpI, hI_sL, hI_sR, hN_sI, hN_sL, hN_sR, hN_cpI, hU_sI, hU_sL, hU_sR, hU_cpI, tn0, tn1, tn2, tn3, tn4, tn5, tn6, tn7, tn8, tn9, tn10, tn11, tn12, tn13, tn14, tn15, tn16, tn17, tn18, tn19, tn20, tn21, tn22, tn23, tn24, tn25, tn26, tn27, tn28, tn29, tn30, tn31, tn32, tn33, tn34, tn35, tn36, tn37, tn38, tn39, tn40, tn41, tn42, tn43, tn44, tn45, tn46, tn47, tn48, tn49, tn50, tn51, tn52, tn53, tn54, tn55, tn56, tn57, tn58, tn59, tn60, lH_eq, true_and, and_true, mdq_0 HM8, mdq_36 HM8, mds_36 HM8, vp_in_nI (show 12 * r + cl.length < 72 by omega) (show 72 < 2 ^ 31 by omega), nI_clamp (show 12 * r + cl.length < 2 ^ 31 by omega), e268, g10, V.2.2.1]
      refine ⟨fun z => by first | exact absurd rfl z | exact absurd trivial z, fun _ => ?_⟩
      have e3010 := (g10 30).trans e308
      have e2710 := (g10 27).trans e278
      rw [show hN h8 = hN (sI h8 (m + 26) (12 * r + cl.length) (nI ((flK cl).length + x.length))) from rfl, show hU h8 = hU (sI h8 (m + 26) (12 * r + cl.length) (nI ((flK cl).length + x.length))) from rfl]
      generalize sI h8 (m + 26) (12 * r + cl.length) (nI ((flK cl).length + x.length)) = h10 at *
      have hp' : p' ≤ n := M10.2.1.2
      have cmv : ∀ {h12 : AH}, FRo h10 h12 m r → hI h12 (m + 25) (12 * r + cl.length) = nI (flK cl).length ∧ hI h12 (m + 26) (12 * r + cl.length) = nI ((flK cl).length + x.length) ∧ SA h12 m r cl := fun {h12} f => ⟨(f.1.2.2.2.2.1 (m + 25) (by omega) _).trans h2510, (f.1.2.2.2.2.1 (m + 26) (by omega) _).trans h2610, hA10.fro f⟩
      refine m_takes (by omega) m n p' 14 15 t rfl (by decide) M10.1 hp' M10.2.1.1 hsk' (fun c h12 f12 g12 q12 => ?_) (fun c h12 f12 g12 => ?_)
      · have F12m : FRm h10 h12 m r := FRm.m f12 (fun j a _ _ _ _ _ => g12 j a)
        obtain ⟨T10, ⟨a22, -⟩, a23, ⟨a24, -⟩, aE, a28, aI⟩ := M10
        have T12 := T10.frm F12m
        have em : mstep t n (p', 2, [], pa', cl, [], x) = .inr (tkE t n p', 7, [], pa', cl, x, []) := by
          have e1 : mstep t n (p', 2, [], pa', cl, [], x) = mgo t n (sk t n p') 2 [] pa' cl [] x := rfl
          rw [e1, hsk']
          unfold mgo
          rw [if_neg (fun z => by omega), if_neg (fun z => by omega), if_neg (fun z => by omega), if_pos ⟨c, rfl⟩, show emL 0 [] = [] from rfl, List.append_nil]
          rfl
        have I12 := mstep_inv aI hp' em
        have rn4 := (rnM_in (σ := (p', 2, [], pa', cl, [], x)) hp' em).symm.trans rn3
        have hE := (tkE_le (t := t) hp').2
        have M12 : MM h12 m n r t (tkE t n p', 7, [], pa', cl, x, []) := ⟨T12, ⟨q12, hE⟩, (g12 23 (by decide)).trans a23, ⟨(g12 24 (by decide)).trans a24, hr⟩, by
          have := aE.cg (g12 26 (by decide)) (f12.2.2.2.2.1 (m + 22) (by omega)) (f12.2.2.2.2.1 (m + 23) (by omega))
          rw [List.append_nil] at this ⊢
          exact this, (g12 28 (by decide)).trans a28, I12⟩
        rw [rI_some]
        refine ⟨fun z => absurd z (by decide), fun _ => ⟨by rw [mdq_0 T12.1], ?_⟩⟩
        refine m_test (by omega) m n r _ pa' t R cl x M12 ((g12 27 (by decide)).trans e2710) rn4 (F12m.m30.trans e3010) (fun h16 f16 B => ?_)
        have FF := F12m.o.trans f16
        obtain ⟨y25, y26, yA⟩ := cmv FF
        have F16 := (F10.trans FF.r).trans (FRr.w (h := h16) (v := hI h16 m 26) (r := r) b27 jl)
        rw [rV_none]
        rcases B with X | ⟨p3, pa3, s, V3, hsk3, rn5, e273, hO3⟩
        · have HM16 := X.1.1
          simp only [rt_i, rt_b0, rt_b1, rt_v, rt_l, rt_o, rt_a, rV_none, rI_some, rL_some, rR_some, rT_some, rt_bI, hIf_sL, hIf_sR, hS_sI, hS_sL, hS_sR, hS_cpI, hR_sI, hR_sL, hR_cpI, hL_sI, hL_sR, hL_cpI, hI_sL, hI_sR, hN_sI, hN_sL, hN_sR, hN_cpI, hU_sI, hU_sL, hU_sR, hU_cpI, tn0, tn1, tn2, tn3, tn4, tn5, tn6, tn7, tn8, tn9, tn10, tn11, tn12, tn13, tn14, tn15, tn16, tn17, tn18, tn19, tn20, tn21, tn22, tn23, tn24, tn25, tn26, tn27, tn28, tn29, tn30, tn31, tn32, tn33, tn34, tn35, tn36, tn37, tn38, tn39, tn40, tn41, tn42, tn43, tn44, tn45, tn46, tn47, tn48, tn49, tn50, tn51, tn52, tn53, tn54, tn55, tn56, tn57, tn58, tn59, tn60, lH_eq, true_and, and_true, mdq_0 HM16, mdq_37 HM16, mds_37 HM16, vp_in_nI (show 12 * r + cl.length < 72 by omega) (show 72 < 2 ^ 31 by omega), nI_clamp (show 12 * r + cl.length < 2 ^ 31 by omega)]
          exact ⟨F16.1.2.2.1, F16.1.2.2.2.1, k _ F16 (Or.inl (X.w b27))⟩
        · have HM16 := V3.1.1
          have C := cl_end hB V3.2.1.2 V3.2.2.2.2.2.2 rn5 (Or.inr ⟨rfl, by rw [hsk3]; exact hO3⟩)
          have P := rc_two V3 yA e273 y25 y26 (fun z => by omega) (by decide) C
          simp only [rt_i, rt_b0, rt_b1, rt_v, rt_l, rt_o, rt_a, rV_none, rI_some, rL_some, rR_some, rT_some, rt_bI, hIf_sL, hIf_sR, hS_sI, hS_sL, hS_sR, hS_cpI, hR_sI, hR_sL, hR_cpI, hL_sI, hL_sR, hL_cpI, hI_sL, hI_sR, hN_sI, hN_sL, hN_sR, hN_cpI, hU_sI, hU_sL, hU_sR, hU_cpI, tn0, tn1, tn2, tn3, tn4, tn5, tn6, tn7, tn8, tn9, tn10, tn11, tn12, tn13, tn14, tn15, tn16, tn17, tn18, tn19, tn20, tn21, tn22, tn23, tn24, tn25, tn26, tn27, tn28, tn29, tn30, tn31, tn32, tn33, tn34, tn35, tn36, tn37, tn38, tn39, tn40, tn41, tn42, tn43, tn44, tn45, tn46, tn47, tn48, tn49, tn50, tn51, tn52, tn53, tn54, tn55, tn56, tn57, tn58, tn59, tn60, lH_eq, true_and, and_true, mdq_0 HM16, mdq_37 HM16, mds_37 HM16, vp_in_nI (show 12 * r + cl.length < 72 by omega) (show 72 < 2 ^ 31 by omega), nI_clamp (show 12 * r + cl.length < 2 ^ 31 by omega)]
          exact ⟨F16.1.2.2.1, F16.1.2.2.2.1, k _ F16 P⟩
      · have F12m : FRm h10 h12 m r := FRm.m f12 (fun j _ _ _ _ _ _ => g12 j)
        have M12 : MM h12 m n r t (p', 2, [], pa', cl, [], x) := by
          obtain ⟨T10, ⟨a22, -⟩, a23, ⟨a24, -⟩, aE, a28, aI⟩ := M10
          exact ⟨T10.frm F12m, ⟨(g12 22).trans a22, hp'⟩, (g12 23).trans a23, ⟨(g12 24).trans a24, hr⟩, aE.cg (g12 26) (f12.2.2.2.2.1 (m + 22) (by omega)) (f12.2.2.2.2.1 (m + 23) (by omega)), (g12 28).trans a28, aI⟩
        have HM12 := M12.1.1
        obtain ⟨y25, y26, yA⟩ := cmv F12m.o
        have C := cl_end hB hp' M12.2.2.2.2.2.2 rn3 (Or.inl ⟨rfl, by rw [hsk']; exact c, by rw [hsk']; exact t5⟩)
        have P := rc_two M12 yA ((g12 27).trans e2710) y25 y26 (fun _ => rfl) (by decide) C
        have F16 := (F10.trans F12m.r).trans (FRr.w (h := h12) (v := hI h12 m 26) (r := r) b27 jl)
        rw [rI_some]
        refine ⟨fun _ => ?_, fun z => absurd rfl z⟩
        simp only [rt_i, rt_b0, rt_b1, rt_v, rt_l, rt_o, rt_a, rV_none, rI_some, rL_some, rR_some, rT_some, rt_bI, hIf_sL, hIf_sR, hS_sI, hS_sL, hS_sR, hS_cpI, hR_sI, hR_sL, hR_cpI, hL_sI, hL_sR, hL_cpI, hI_sL, hI_sR, hN_sI, hN_sL, hN_sR, hN_cpI, hU_sI, hU_sL, hU_sR, hU_cpI, tn0, tn1, tn2, tn3, tn4, tn5, tn6, tn7, tn8, tn9, tn10, tn11, tn12, tn13, tn14, tn15, tn16, tn17, tn18, tn19, tn20, tn21, tn22, tn23, tn24, tn25, tn26, tn27, tn28, tn29, tn30, tn31, tn32, tn33, tn34, tn35, tn36, tn37, tn38, tn39, tn40, tn41, tn42, tn43, tn44, tn45, tn46, tn47, tn48, tn49, tn50, tn51, tn52, tn53, tn54, tn55, tn56, tn57, tn58, tn59, tn60, lH_eq, true_and, and_true, mdq_0 HM12, mdq_37 HM12, mds_37 HM12, vp_in_nI (show 12 * r + cl.length < 72 by omega) (show 72 < 2 ^ 31 by omega), nI_clamp (show 12 * r + cl.length < 2 ^ 31 by omega)]
        exact ⟨F16.1.2.2.1, F16.1.2.2.2.1, k _ F16 P⟩
  · rw [if_pos (Decidable.not_not.mp z), if_pos (by omega)] at e1
    exact bad 4 (by decide) e1
  · rw [if_neg z] at e1
    exact bad 0 (by decide) e1
