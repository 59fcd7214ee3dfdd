theorem sp_fits {d : Nat} {h : AH} {Q : Option Value → AH → Prop} (hd : 11 ≤ d) (v t a ru nr nw l m : Nat) (A : PC) (ns : List (Nat × Nat × Int32)) (R : Option (List (List (Nat × Nat) × List (Nat × Nat)))) (hm : m < 7) (hl : l ≤ 60) (dru : ru ≠ 0 → v + 20 ≤ ru ∨ ru + 3 ≤ v) (H : VC h v t a nr nw A ns) (HR : RuIs h ru R) (h3 : hI h v 3 = nI m) (k1 : fitP R A nr nw ns → ∀ h', Fr' h h' (VB v) → (∀ j, hI h' v j = hI h v j) → (∀ i, i < 7 → i ≠ m → ∀ j, hI h' (v + 13 + i) j = hI h (v + 13 + i) j) → (∀ w, w < nw → hI h' (v + 13 + m) w = itF R A nr nw (l + 1) (begM A) 5 w) → Q (some (.int 1)) h') (k2 : ¬ fitP R A nr nw ns → ∀ h', Fr' h h' (VB v) → (∀ j, hI h' v j = hI h v j) → (∀ i, i < 7 → i ≠ m → ∀ j, hI h' (v + 13 + i) j = hI h (v + 13 + i) j) → Q (some (.int 0)) h') : Calls d nX10_fits [.ref v, .ref t, .ref ru, .int (nI l)] h (hN h) (hU h) Q := by
  obtain ⟨e, rfl⟩ : ∃ e, d = e + 1 := ⟨d - 1, by omega⟩
  have HV := H
  obtain ⟨⟨h0, h1, h2, h3', h4⟩, ⟨c1, c2, c3, c4, c5⟩, ⟨x1, x2, x3, x4⟩, d1, d2⟩ := H
  have b1 := x2.2.2.2.1
  have b2 := x2.2.2.2.2.1
  have A6 := x2.2.2.2.2.2.2.1
  have A7 := x2.2.2.2.2.2.2.2.1
  refine wX10_fits (by omega) v t ru (nI l) ?_
  simp only [rt_i, rt_b0, rt_b1, rt_v, rt_l, rt_o, rt_a, rV_none, rI_some, rL_some, rR_some, rT_some, rt_bI, hIf_sL, hIf_sR, hS_sI, hS_sL, hS_sR, hS_cpI, hR_sI, hR_sL, hR_cpI, hL_sI, hL_sR, hL_cpI, hI_sL, hI_sR, hN_sI, hN_sL, hN_sR, hN_cpI, hU_sI, hU_sL, hU_sR, hU_cpI, tn0, tn1, tn2, tn3, tn4, tn5, tn6, tn7, tn8, tn9, tn10, tn11, tn12, tn13, tn14, tn15, tn16, tn17, tn18, tn19, tn20, tn21, tn22, tn23, tn24, tn25, tn26, tn27, tn28, tn29, tn30, tn31, tn32, tn33, tn34, tn35, tn36, tn37, tn38, tn39, tn40, tn41, tn42, tn43, tn44, tn45, tn46, tn47, tn48, tn49, tn50, tn51, tn52, tn53, tn54, tn55, tn56, tn57, tn58, tn59, tn60, lH_eq, true_and, and_true, h0, h2, h4, twq_0 x1, moq_0 c2]
  refine sp_begin (by omega) (v + 6) a c2 x2.1 (hil_mom_dis x2.1 c2).symm (fun k1' g q0 q1 q2 => ?_)
  have gV := g.mono (T := VB v) (fun c z => by unfold mS at z; unfold VB; omega)
  have HV1 := HV.fr gV
  rw [rV_none]
  refine sp_lastOf (by omega) t nr nw l ns HV1.2.2.1.1 HV1.2.2.1.2.2.1 x4 hl ?_
  rw [rI_some]
  have ls := lsF_le hl x4 ns.length
  have mB : MomIs k1' (v + 6) nr nw (begM A) := by
    refine ⟨c2.fr g, ⟨?_, fun j hj => ⟨?_, ?_, ?_⟩, fun j hj => ⟨?_, ?_⟩⟩, fun j z1 z2 => (q1 j z2).2.2⟩
    · exact q0
    · show hI k1' (v + 6 + 1) j = A 1 j
      rw [(q1 j (by omega)).1]; exact (A6 j hj).1
    · show hI k1' (v + 6 + 2) j = A 2 j
      rw [(q1 j (by omega)).2.1]; exact (A6 j hj).2
    · show hI k1' (v + 6 + 3) j = 0
      rw [(q1 j (by omega)).2.2]
    · show hI k1' (v + 6 + 4) j = A 3 j
      rw [(q2 j (by omega)).1]; exact A7 j hj
    · show hI k1' (v + 6 + 5) j = -1
      rw [(q2 j (by omega)).2]
  have gv : ∀ j, hI k1' v j = hI h v j := g.2.2.2.2.1 v (by unfold mS; omega)
  refine fts_loop (by omega) v t a ru nr nw l (lsF l ns ns.length) m A ns R hm ls.2.1 ls.1 (fun k q hq => ?_) dru h rfl rfl k1 k2 (lsF l ns ns.length + 1) 0 k1' (by omega) HV1 (HR.fr gV (fun z => by have := dru z; unfold VB; omega)) (by rw [gv]; exact h3) gV gv (fun i hi hn j => g.2.2.2.2.1 _ (by unfold mS; omega) j) mB (fun k q _ z => absurd z (Nat.not_lt_zero _)) (fun z => absurd z (Nat.not_lt_zero _))
  have h5 := ls.2.2 k (getq_lt hq)
  unfold nDay at h5
  rw [hq] at h5
  exact h5
def Rr (cls : List (List (List (Nat × Nat) × List (Nat × Nat)))) (i : Nat) : Option (List (List (Nat × Nat) × List (Nat × Nat))) := if i = 0 then none else cls[i - 1]?
noncomputable def ftB (cls : List (List (List (Nat × Nat) × List (Nat × Nat)))) (A : PC) (nr nw : Nat) (ns : List (Nat × Nat × Int32)) (i : Nat) : Bool := @decide (fitP (Rr cls i) A nr nw ns) (Classical.propDecidable _)
theorem ftB_t {cls : List (List (List (Nat × Nat) × List (Nat × Nat)))} {A : PC} {nr nw i : Nat} {ns : List (Nat × Nat × Int32)} : (ftB cls A nr nw ns i = true) = fitP (Rr cls i) A nr nw ns := by
  unfold ftB
  exact propext (@decide_eq_true_iff _ (Classical.propDecidable _))
def frF (f : Nat → Bool) : Nat → Int32
  | 0 => -2
  | n + 1 => if f n = true ∧ ctF f n = 0 then cI n else frF f n
def ixF (f : Nat → Bool) : Nat → Nat → Nat
  | 0 => fun _ => 0
  | n + 1 => fun k => if f n = true ∧ k = ctF f n then n else ixF f n k
theorem ctF_le (f : Nat → Bool) : ∀ n, ctF f n ≤ n
  | 0 => Nat.le_refl _
  | n + 1 => by
    have := ctF_le f n
    simp only [ctF]
    split <;> omega
/-- the rules of the class in their row -/
def RlsAt (h : AH) (rl : Nat) (cls : List (List (List (Nat × Nat) × List (Nat × Nat)))) : Prop := hS h rl = (5, 6) ∧ cls.length ≤ 6 ∧ (∀ (i : Nat) (c : List (List (Nat × Nat) × List (Nat × Nat))), cls[i]? = some c → hR h rl i ≠ 0 ∧ RulAt h (hR h rl i) c)
def WiIs (h : AH) (v nw : Nat) (f : Nat → Bool) (G : Nat → Nat → Int32) (i : Nat) : Prop := hI h v 3 = nI (ctF f i) ∧ hI h v 4 = frF f i ∧ (∀ k, k < ctF f i → ∀ w, w < nw → hI h (v + 13 + k) w = G (ixF f i k) w)
theorem he_loop {d E1 E2 : Nat} {Q : Option Value → AH → Prop} (hd : 11 ≤ d) (v t a rl nr nw l : Nat) (A : PC) (ns : List (Nat × Nat × Int32)) (cls : List (List (List (Nat × Nat) × List (Nat × Nat)))) (hl : l ≤ 60) (drl : v + 20 ≤ rl ∨ rl < v) (k0 : AH) (hdr : ∀ (i : Nat) (c : List (List (Nat × Nat) × List (Nat × Nat))), cls[i]? = some c → v + 20 ≤ hR k0 rl i ∨ hR k0 rl i + 3 ≤ v) (e1 : hN k0 = E1) (e2 : hU k0 = E2) (k : ∀ h', Fr' k0 h' (VB v) → WiIs h' v nw (ftB cls A nr nw ns) (fun j w => itF (Rr cls j) A nr nw (l + 1) (begM A) 5 w) (cls.length + 1) → Q none h') : ∀ (n i : Nat) (h : AH), i + n = cls.length + 1 → VC h v t a nr nw A ns → RlsAt h rl cls → Fr' k0 h (VB v) → WiIs h v nw (ftB cls A nr nw ns) (fun j w => itF (Rr cls j) A nr nw (l + 1) (begM A) 5 w) i → Reach d nX10_hear (14, [.ref v, .ref t, .ref rl, .int (nI cls.length), .int (nI l), .int (cI i)], []) h E1 E2 Q
  | 0, i, h, hi, H, HL, f, HW => by
    have : i = cls.length + 1 := by omega
    subst this
    have := HL.2.1
    refine wX10_hear_14 (by omega) v t rl _ _ (cI (cls.length + 1)) ?_
    simp only [rt_i, rt_b0, rt_b1, rt_v, rt_l, rt_o, rt_a, rV_none, rI_some, rL_some, rR_some, rT_some, rt_bI, hIf_sL, hIf_sR, hS_sI, hS_sL, hS_sR, hS_cpI, hR_sI, hR_sL, hR_cpI, hL_sI, hL_sR, hL_cpI, hI_sL, hI_sR, hN_sI, hN_sL, hN_sR, hN_cpI, hU_sI, hU_sL, hU_sR, hU_cpI, tn0, tn1, tn2, tn3, tn4, tn5, tn6, tn7, tn8, tn9, tn10, tn11, tn12, tn13, tn14, tn15, tn16, tn17, tn18, tn19, tn20, tn21, tn22, tn23, tn24, tn25, tn26, tn27, tn28, tn29, tn30, tn31, tn32, tn33, tn34, tn35, tn36, tn37, tn38, tn39, tn40, tn41, tn42, tn43, tn44, tn45, tn46, tn47, tn48, tn49, tn50, tn51, tn52, tn53, tn54, tn55, tn56, tn57, tn58, tn59, tn60, lH_eq, true_and, and_true, cI_ge (show cls.length + 1 < 1000 by omega) (show cls.length < 1000 by omega)]
    exact ⟨fun _ => ⟨f.2.2.1.trans e1, f.2.2.2.1.trans e2, k h f HW⟩, fun z => absurd (Nat.lt_succ_self _) z⟩
  | n + 1, i, h, hi, H, HL, f, HW => by
    have h6 := HL.2.1
    have cl := ctF_le (ftB cls A nr nw ns) i
    obtain ⟨w1, w2, w3⟩ := HW
    have h0 := H.1.1
    have c65 : (6 < nI (ctF (ftB cls A nr nw ns) i)) = (6 < ctF (ftB cls A nr nw ns) i) := nI_lt_iff (a := 6) (by decide) (by omega)
    have c0 : ∀ x, x ≤ 100 → (nI x = 0) = (x = 0) := fun x hx => nI_eq_iff (b := 0) (by omega) (by decide)
    -- behind the look at one rule
    have next : ∀ (ru : Nat), RuIs h ru (Rr cls i) → (ru ≠ 0 → v + 20 ≤ ru ∨ ru + 3 ≤ v) → Calls d nX10_fits [.ref v, .ref t, .ref ru, .int (nI l)] h (hN h) (hU h) (fun r2 h1 => rI r2 fun x3 => ((x3 : Int32) = 0 → Reach d 99 (14, [.ref v, .ref t, .ref rl, .int (nI cls.length), .int (nI l), .int (cI i + 1)], []) h1 E1 E2 Q) ∧ (¬ (x3 : Int32) = 0 → (hS h1 v).1 = 10 + 10 ∧ (¬ (hI h1 v 3 : Int32) = 0 → (hS h1 v).1 = 10 + 10 ∧ (hS h1 v).1 = 10 + 10 ∧ Reach d 99 (14, [.ref v, .ref t, .ref rl, .int (nI cls.length), .int (nI l), .int (cI i + 1)], []) (sI h1 v 3 ((hI h1 v 3) + 1)) E1 E2 Q) ∧ ((hI h1 v 3 : Int32) = 0 → (hS h1 v).1 = 10 + 10 ∧ (hS h1 v).1 = 10 + 10 ∧ (hS h1 v).1 = 10 + 10 ∧ Reach d 99 (14, [.ref v, .ref t, .ref rl, .int (nI cls.length), .int (nI l), .int (cI i + 1)], []) (sI (sI h1 v 4 (cI i)) v 3 ((hI (sI h1 v 4 (cI i)) v 3) + 1)) E1 E2 Q))) := fun ru HR dr => by
      have RL : ∀ h' : AH, Fr' h h' (VB v) → RlsAt h' rl cls := fun h' g => ⟨by rw [g.1]; exact HL.1, HL.2.1, fun j c hj => by
        have := HL.2.2 j c hj
        have d3 := hdr j c hj
        rw [g.2.1]
        rw [← f.2.1] at d3
        exact ⟨this.1, this.2.fr g (by unfold VB; omega) (by unfold VB; omega) (by unfold VB; omega)⟩⟩
      rw [cI_up]
      refine sp_fits hd v t a ru nr nw l (ctF (ftB cls A nr nw ns) i) A ns (Rr cls i) (by omega) hl dr H HR w1 (fun hf h' g gv gr gm => ?_) (fun hf h' g gv gr => ?_)
      · have hb : ftB cls A nr nw ns i = true := by rw [ftB_t]; exact hf
        have ec : ctF (ftB cls A nr nw ns) (i + 1) = ctF (ftB cls A nr nw ns) i + 1 := by simp [ctF, hb]
        have h3b : hI h' v 3 = nI (ctF (ftB cls A nr nw ns) i) := by rw [gv]; exact w1
        simp only [rI_some, show ¬ (1 : Int32) = 0 by decide, not_false_eq_true, g.1, h0, true_and, h3b, c0 _ (show ctF (ftB cls A nr nw ns) i ≤ 100 by omega), hI_sI, if_true, show ((3 : Nat) = 4) = False by simp, if_false, nI_1, false_implies, forall_const]
        have rows : ∀ (h2 : AH), (∀ j, hI h2 (v + 13 + j) = hI h' (v + 13 + j)) → ∀ k, k < ctF (ftB cls A nr nw ns) (i + 1) → ∀ w, w < nw → hI h2 (v + 13 + k) w = itF (Rr cls (ixF (ftB cls A nr nw ns) (i + 1) k)) A nr nw (l + 1) (begM A) 5 w := fun h2 e k hk w hw => by
          rw [e]
          by_cases c : k = ctF (ftB cls A nr nw ns) i
          · have ex : ixF (ftB cls A nr nw ns) (i + 1) k = i := by simp [ixF, hb, c]
            rw [ex, c]
            exact gm w hw
          · have ex : ixF (ftB cls A nr nw ns) (i + 1) k = ixF (ftB cls A nr nw ns) i k := by simp [ixF, c]
            rw [ex, gr k (by omega) c]
            exact w3 k (by omega) w hw
        refine ⟨fun z => ?_, fun z => ?_⟩
        · have f2 : Fr' h' (sI h' v 3 (nI (ctF (ftB cls A nr nw ns) i + 1))) (VB v) := Fr'.sI (Or.inl rfl)
          have ef : frF (ftB cls A nr nw ns) (i + 1) = frF (ftB cls A nr nw ns) i := by simp [frF, z]
          refine he_loop hd v t a rl nr nw l A ns cls hl drl k0 hdr e1 e2 k n (i + 1) _ (by omega) (H.fr (g.trans f2)) (RL _ (g.trans f2)) (f.trans (g.trans f2)) ⟨?_, ?_, ?_⟩
          · rw [hI_sI, if_pos rfl, if_pos rfl, ec]
          · rw [hI_sI, if_pos rfl, if_neg (by decide), gv, ef]; exact w2
          · exact rows _ (fun j => funext (fun x => by rw [hI_sI, if_neg (by omega)]))
        · have f2 : Fr' h' (sI (sI h' v 4 (cI i)) v 3 (nI (ctF (ftB cls A nr nw ns) i + 1))) (VB v) := (Fr'.sI (Or.inl rfl)).trans (Fr'.sI (Or.inl rfl))
          have ef : frF (ftB cls A nr nw ns) (i + 1) = cI i := by simp [frF, hb, z]
          refine he_loop hd v t a rl nr nw l A ns cls hl drl k0 hdr e1 e2 k n (i + 1) _ (by omega) (H.fr (g.trans f2)) (RL _ (g.trans f2)) (f.trans (g.trans f2)) ⟨?_, ?_, ?_⟩
          · rw [hI_sI, if_pos rfl, if_pos rfl, ec]
          · rw [hI_sI, if_pos rfl, if_neg (by decide), hI_sI, if_pos rfl, if_pos rfl, ef]
          · exact rows _ (fun j => funext (fun x => by rw [hI_sI, if_neg (by omega), hI_sI, if_neg (by omega)]))
      · have hb : ¬ ftB cls A nr nw ns i = true := by rw [ftB_t]; exact hf
        have ec : ctF (ftB cls A nr nw ns) (i + 1) = ctF (ftB cls A nr nw ns) i := by simp [ctF, hb]
        have ef : frF (ftB cls A nr nw ns) (i + 1) = frF (ftB cls A nr nw ns) i := by simp [frF, hb]
        rw [rI_some]
        refine ⟨fun _ => ?_, fun z => absurd rfl z⟩
        refine he_loop hd v t a rl nr nw l A ns cls hl drl k0 hdr e1 e2 k n (i + 1) _ (by omega) (H.fr g) (RL _ g) (f.trans g) ⟨?_, ?_, ?_⟩
        · rw [gv, ec]; exact w1
        · rw [gv, ef]; exact w2
        · intro k hk w hw
          rw [ec] at hk
          have ex : ixF (ftB cls A nr nw ns) (i + 1) k = ixF (ftB cls A nr nw ns) i k := by simp [ixF, hb]
          rw [ex, gr k (by omega) (by omega)]
          exact w3 k hk w hw
    refine wX10_hear_14 (by omega) v t rl _ _ (cI i) ?_
    simp only [rt_i, rt_b0, rt_b1, rt_v, rt_l, rt_o, rt_a, rV_none, rI_some, rL_some, rR_some, rT_some, rt_bI, hIf_sL, hIf_sR, hS_sI, hS_sL, hS_sR, hS_cpI, hR_sI, hR_sL, hR_cpI, hL_sI, hL_sR, hL_cpI, hI_sL, hI_sR, hN_sI, hN_sL, hN_sR, hN_cpI, hU_sI, hU_sL, hU_sR, hU_cpI, tn0, tn1, tn2, tn3, tn4, tn5, tn6, tn7, tn8, tn9, tn10, tn11, tn12, tn13, tn14, tn15, tn16, tn17, tn18, tn19, tn20, tn21, tn22, tn23, tn24, tn25, tn26, tn27, tn28, tn29, tn30, tn31, tn32, tn33, tn34, tn35, tn36, tn37, tn38, tn39, tn40, tn41, tn42, tn43, tn44, tn45, tn46, tn47, tn48, tn49, tn50, tn51, tn52, tn53, tn54, tn55, tn56, tn57, tn58, tn59, tn60, lH_eq, true_and, and_true, cI_ge (show i < 1000 by omega) (show cls.length < 1000 by omega), h0, w1, c65, cI_m1 (show i < 1000 by omega)]
    refine ⟨fun z => absurd z (by omega), fun _ => ⟨fun z => absurd z (by omega), fun _ => ⟨fun z => ?_, fun z => ?_⟩⟩⟩
    · obtain ⟨j, rfl⟩ : ∃ j, i = j + 1 := ⟨i - 1, by omega⟩
      obtain ⟨c, hc⟩ : ∃ c, cls[j]? = some c := ⟨cls[j]'(by omega), List.getElem?_eq_getElem (by omega)⟩
      have hL := HL.2.2 j c hc
      have dr := hdr j c hc
      have eR : Rr cls (j + 1) = some c := by unfold Rr; rw [if_neg (by omega)]; exact hc
      simp only [HL.1, cI_s, vp_in_nI (show j < 6 by omega) (show 6 < 2 ^ 31 by omega), nI_clamp (show j < 2 ^ 31 by omega), true_and]
      have nx := next (hR h rl j) (by rw [eR]; exact hL) (fun _ => by rw [f.2.1]; exact dr)
      rw [cI_s] at nx
      exact ⟨by decide, by decide, nx⟩
    · subst z
      have nx := next 0 rfl (fun z => absurd rfl z)
      exact nx
