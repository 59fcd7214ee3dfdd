/-! the reference's steps of a rule -/
theorem nk2 : nI 2 = 2 := rfl
theorem nk3 : nI 3 = 3 := rfl
theorem nk4 : nI 4 = 4 := rfl
theorem nk5 : nI 5 = 5 := rfl
theorem nk6 : nI 6 = 6 := rfl
theorem nk7 : nI 7 = 7 := rfl
theorem nk8 : nI 8 = 8 := rfl
theorem nk10 : nI 10 = 10 := rfl
theorem nk11 : nI 11 = 11 := rfl
theorem nk13 : nI 13 = 13 := rfl
theorem nk14 : nI 14 = 14 := rfl
theorem nk15 : nI 15 = 15 := rfl
theorem m_truth {d : Nat} {h : AH} {Q : Option Value → AH → Prop} (hd : 5 ≤ d) (x : Int32) (k : Q (some (.long (if x = 0 then 0 else 1))) h) : Calls d nX12_truth [.int x] h (hN h) (hU h) Q := by
  obtain ⟨e, rfl⟩ : ∃ e, d = e + 1 := ⟨d - 1, by omega⟩
  refine wX12_truth (by omega) x ?_
  simp only [rt_i, rt_b0, rt_b1, rt_v, rt_l, rt_o, rt_a, rV_none, rI_some, rL_some, rR_some, rT_some, rt_bI, hIf_sL, hIf_sR, hS_sI, hS_sL, hS_sR, hS_cpI, hR_sI, hR_sL, hR_cpI, hL_sI, hL_sR, hL_cpI, hI_sL, hI_sR, hN_sI, hN_sL, hN_sR, hN_cpI, hU_sI, hU_sL, hU_sR, hU_cpI, tn0, tn1, tn2, tn3, tn4, tn5, tn6, tn7, tn8, tn9, tn10, tn11, tn12, tn13, tn14, tn15, tn16, tn17, tn18, tn19, tn20, tn21, tn22, tn23, tn24, tn25, tn26, tn27, tn28, tn29, tn30, tn31, tn32, tn33, tn34, tn35, tn36, tn37, tn38, tn39, tn40, tn41, tn42, tn43, tn44, tn45, tn46, tn47, tn48, tn49, tn50, tn51, tn52, tn53, tn54, tn55, tn56, tn57, tn58, tn59, tn60, lH_eq, true_and, and_true]
  refine ⟨fun z => ?_, fun z => ?_⟩
  · rwa [if_pos z] at k
  · rwa [if_neg z] at k
theorem m_truth0 {d : Nat} {h : AH} {Q : Option Value → AH → Prop} (hd : 5 ≤ d) (k : Q (some (.long 0)) h) : Calls d nX12_truth [.int 0] h (hN h) (hU h) Q := m_truth hd 0 k
theorem m_truth1 {d : Nat} {h : AH} {Q : Option Value → AH → Prop} (hd : 5 ≤ d) (k : Q (some (.long 1)) h) : Calls d nX12_truth [.int 1] h (hN h) (hU h) Q := m_truth hd 1 k
theorem m_both {d : Nat} {h : AH} {Q : Option Value → AH → Prop} (hd : 6 ≤ d) (q : Nat) (a b : Int64) (ho : isOp q = true) (k : Q (some (.long (jn q a b))) h) : Calls d nX12_both [.int (nI q), .long a, .long b] h (hN h) (hU h) Q := by
  obtain ⟨e, rfl⟩ : ∃ e, d = e + 1 := ⟨d - 1, by omega⟩
  refine wX12_both (by omega) (nI q) a b ?_
  rcases isOp_cases ho with rfl | rfl | rfl | rfl | rfl | rfl | rfl | rfl | rfl | rfl | rfl | rfl
  all_goals simp (config := { decide := true }) only [nk2, nk3, nk4, nk5, nk6, nk7, nk8, nk10, nk11, nk13, nk14, nk15, rt_i, rt_b0, rt_b1, rt_v, rt_l, rt_o, rt_a, rV_none, rI_some, rL_some, rR_some, rT_some, true_and, lg0, lgle, lglt, lgge, lggt, and_true, not_true_eq_false, not_false_eq_true, false_implies, true_implies, forall_const, implies_true]
  all_goals simp only [jn] at k
  all_goals first
    | exact k
    | (refine ⟨fun z => ?_, fun z => ?_⟩ <;> (try (first | refine m_truth0 (by omega) ?_ | refine m_truth1 (by omega) ?_)) <;> (try simp only [rL_some, rt_l, true_and]) <;> first
        | (rwa [if_pos z] at k; done)
        | (rwa [if_neg z] at k; done)
        | (rwa [if_neg (Int64.not_le.mpr z)] at k; done)
        | (rwa [if_neg (Int64.not_lt.mpr z)] at k; done)
        | (rwa [if_pos (i64_le_of z)] at k; done)
        | (rwa [if_pos (i64_lt_of z)] at k; done)
        | (exact ⟨z, by rwa [if_neg z] at k⟩))
def rseg (so nu : Nat → Int32) (o : Nat) (ops : List (Nat × Nat)) : Prop := ∀ (j : Nat) (q : Nat × Nat), ops[j]? = some q → opOk q ∧ so (o + j) = nI q.1 ∧ nu (o + j) = nI q.2
theorem opk_n0 {k : Nat} (h : isOp k = true) : ¬ nI k = 0 ∧ ¬ nI k = 1 ∧ ¬ nI k = 9 := by
  rcases isOp_cases h with rfl | rfl | rfl | rfl | rfl | rfl | rfl | rfl | rfl | rfl | rfl | rfl <;> decide
theorem an_loop {d E1 E2 : Nat} {Q : Option Value → AH → Prop} (hd : 6 ≤ d) (m s0 to : Nat) (so nu : Nat → Int32) (wd : Nat → Int64) (t : Bool) (hs0 : s0 < 6) (hto : to ≤ 300) : ∀ (ops : List (Nat × Nat)) (i : Nat) (s : List Int64) (ts : List Bool) (h : AH), i + ops.length = to → rseg so nu (300 * s0 + i) ops → ModAt h m → (∀ j, hI h (m + 22) j = so j) → (∀ j, hI h (m + 23) j = nu j) → (∀ j, j < 12 → hL h (m + 29) j = wd j) → s.length = ts.length → s.length + vals ops ≤ 60 → tys ops ts = some [t] → pileIs h (m + 30) s → hN h = E1 → hU h = E2 → (∀ h' v, Fr' h h' (fun b => b = m + 30) → evs wd ops s = [v] → Q (some (.long v)) h') → Reach d nX12_answer (6, [.ref m, .int (nI s0), .float 0, .int (nI to), .int (nI s.length), .int (nI i), .float 0, .float 0], []) h E1 E2 Q
  | [], i, s, ts, h, hi, hops, H, hso, hnu, hwd, hst, hv, hty, hp, e1, e2, k => by
    simp only [tys, Option.some.injEq] at hty
    subst hty
    have hs1 : s.length = 1 := hst
    obtain ⟨v, rfl⟩ : ∃ v, s = [v] := List.length_eq_one_iff.mp hs1
    simp only [List.length_nil, Nat.add_zero] at hi
    refine wX12_answer_6 (by omega) m (nI s0) (nI to) _ (nI i) ?_
    simp only [rt_i, rt_b0, rt_b1, rt_v, rt_l, rt_o, rt_a, rV_none, rI_some, rL_some, rR_some, rT_some, rt_bI, hIf_sL, hIf_sR, hS_sI, hS_sL, hS_sR, hS_cpI, hR_sI, hR_sL, hR_cpI, hL_sI, hL_sR, hL_cpI, hI_sL, hI_sR, hN_sI, hN_sL, hN_sR, hN_cpI, hU_sI, hU_sL, hU_sR, hU_cpI, tn0, tn1, tn2, tn3, tn4, tn5, tn6, tn7, tn8, tn9, tn10, tn11, tn12, tn13, tn14, tn15, tn16, tn17, tn18, tn19, tn20, tn21, tn22, tn23, tn24, tn25, tn26, tn27, tn28, tn29, tn30, tn31, tn32, tn33, tn34, tn35, tn36, tn37, tn38, tn39, tn40, tn41, tn42, tn43, tn44, tn45, tn46, tn47, tn48, tn49, tn50, tn51, tn52, tn53, tn54, tn55, tn56, tn57, tn58, tn59, tn60, lH_eq, true_and, and_true, mdq_0 H, mdq_40 H, mds_40 H, nI_le_iff (show to < 2 ^ 31 by omega) (show i < 2 ^ 31 by omega), show vp_in 0 300 from vp_in_nI (n := 0) (by decide) (by decide), hp 0 (by simp)]
    exact ⟨fun _ => ⟨e1, e2, k h v (Fr'.refl _ _) rfl⟩, fun z => absurd (by omega) z⟩
  | q :: rest, i, s, ts, h, hi, hops, H, hso, hnu, hwd, hst, hv, hty, hp, e1, e2, k => by
    simp only [List.length_cons] at hi
    obtain ⟨ho, hq1, hq2⟩ := hops 0 q rfl
    simp only [Nat.add_zero] at hq1 hq2
    have hops' : rseg so nu (300 * s0 + (i + 1)) rest := fun j q hj => by
      have := hops (j + 1) q (by simpa using hj)
      rwa [show 300 * s0 + i + (j + 1) = 300 * s0 + (i + 1) + j by omega] at this
    simp only [tys] at hty
    cases htt : tst q.1 ts with
    | none => rw [htt] at hty; cases hty
    | some ts' =>
      rw [htt] at hty
      simp only at hty
      refine wX12_answer_6 (by omega) m (nI s0) (nI to) _ (nI i) ?_
      have i1 : 300 * nI s0 + nI i = nI (300 * s0 + i) := by rw [← nI_add, ← pk_mul]; rfl
      simp only [rt_i, rt_b0, rt_b1, rt_v, rt_l, rt_o, rt_a, rV_none, rI_some, rL_some, rR_some, rT_some, rt_bI, hIf_sL, hIf_sR, hS_sI, hS_sL, hS_sR, hS_cpI, hR_sI, hR_sL, hR_cpI, hL_sI, hL_sR, hL_cpI, hI_sL, hI_sR, hN_sI, hN_sL, hN_sR, hN_cpI, hU_sI, hU_sL, hU_sR, hU_cpI, tn0, tn1, tn2, tn3, tn4, tn5, tn6, tn7, tn8, tn9, tn10, tn11, tn12, tn13, tn14, tn15, tn16, tn17, tn18, tn19, tn20, tn21, tn22, tn23, tn24, tn25, tn26, tn27, tn28, tn29, tn30, tn31, tn32, tn33, tn34, tn35, tn36, tn37, tn38, tn39, tn40, tn41, tn42, tn43, tn44, tn45, tn46, tn47, tn48, tn49, tn50, tn51, tn52, tn53, tn54, tn55, tn56, tn57, tn58, tn59, tn60, lH_eq, true_and, and_true, mdq_0 H, mdq_32 H, mds_32 H, mdq_33 H, mds_33 H, mdq_39 H, mds_39 H, mdq_40 H, mds_40 H, i1, vp_in_nI (show 300 * s0 + i < 1800 by omega) (show 1800 < 2 ^ 31 by omega), nI_clamp (show 300 * s0 + i < 2 ^ 31 by omega), nI_le_iff (show to < 2 ^ 31 by omega) (show i < 2 ^ 31 by omega), hso, hnu, hq1, hq2, nI_1]
      refine ⟨fun z => absurd z (by omega), fun _ => ?_⟩
      have next : ∀ (h2 : AH) (s' : List Int64), Fr' h h2 (fun b => b = m + 30) → s' = ev1 wd q s → s'.length = ts'.length → s'.length + vals rest ≤ 60 → pileIs h2 (m + 30) s' → Reach d nX12_answer (6, [.ref m, .int (nI s0), .float 0, .int (nI to), .int (nI s'.length), .int (nI (i + 1)), .float 0, .float 0], []) h2 E1 E2 Q := fun h2 s' f he hl hv2 hp2 => by
        refine an_loop hd m s0 to so nu wd t hs0 hto rest (i + 1) s' ts' h2 (by omega) hops' (H.fr f) (fun j => by rw [f.2.2.2.2.1 (m + 22) (by omega)]; exact hso j) (fun j => by rw [f.2.2.2.2.1 (m + 23) (by omega)]; exact hnu j) (fun j hj => by rw [f.2.2.2.2.2 (m + 29) (by omega)]; exact hwd j hj) hl hv2 hty hp2 (f.2.2.1.trans e1) (f.2.2.2.1.trans e2) (fun h3 v f3 e3 => k h3 v (f.trans f3) ?_)
        rw [← e3, he]; rfl
      obtain ⟨qk, qv⟩ := q
      rcases ho with ⟨hk, hlt⟩ | ⟨hk, hlt⟩ | hk | hk
      · simp only at hk hlt
        subst hk
        simp only [tst, Option.some.injEq] at htt
        subst htt
        have hvv : vals ((0, qv) :: rest) = 1 + vals rest := rfl
        refine ⟨fun _ => ⟨fun z => absurd rfl z, fun _ => ⟨vp_in_nI (by omega) (by decide), ?_⟩⟩, fun z => absurd rfl z⟩
        rw [nI_clamp (by omega)]
        exact next _ ((nI qv).toInt64 :: s) (Fr'.sL rfl) rfl (by simp [hst]) (by simp; omega) (pile_push hp)
      · simp only at hk hlt
        subst hk
        simp only [tst, Option.some.injEq] at htt
        subst htt
        have hvv : vals ((1, qv) :: rest) = 1 + vals rest := rfl
        refine ⟨fun z => absurd z (show ¬ nI 1 = 0 by decide), fun _ => ⟨fun z => absurd rfl z, fun _ => ⟨fun _ => ?_, fun z => absurd z (show ¬ nI 1 = 0 by decide)⟩⟩⟩
        refine ⟨vp_in_nI hlt (by decide), vp_in_nI (by omega) (by decide), ?_⟩
        rw [nI_clamp (show s.length < 2 ^ 31 by omega), nI_clamp (show qv < 2 ^ 31 by omega), hwd qv hlt]
        exact next _ (wd qv :: s) (Fr'.sL rfl) rfl (by simp [hst]) (by simp; omega) (pile_push hp)
      · simp only at hk
        subst hk
        have hvv : vals ((9, qv) :: rest) = vals rest := by simp [vals]
        simp only [tst] at htt
        split at htt
        · rename_i tr
          cases htt
          cases s with
          | nil => simp at hst
          | cons a sr =>
            have hl : sr.length < 60 := by simp only [List.length_cons] at hv; omega
            have h0 := hp sr.length (by simp)
            simp only [List.length_cons, show sr.length + 1 - 1 - sr.length = 0 by omega] at h0
            refine ⟨fun z => absurd z (show ¬ nI 9 = 0 by decide), fun _ => ⟨fun _ => ⟨fun z => absurd rfl z, fun _ => ?_⟩, fun z => absurd z (show ¬ nI 9 = 1 by decide)⟩⟩
            simp only [List.length_cons, nI_sub1]
            refine ⟨vp_in_nI (by omega) (by decide), vp_in_nI (by omega) (by decide), ?_⟩
            rw [nI_clamp (by omega), h0]
            exact next _ ((1 - a) :: sr) (Fr'.sL rfl) rfl (by simpa using hst) (by simp only [List.length_cons] at hv ⊢; omega) (pile_top hp)
        · cases htt
      · simp only at hk
        have hvv := vals_op (v := qv) (r := rest) hk
        obtain ⟨x, y, z9, tr, rfl, rfl⟩ := tst_op hk htt
        have c := opk_n0 hk
        cases s with
        | nil => simp at hst
        | cons b s2 =>
          cases s2 with
          | nil => simp at hst
          | cons a sr =>
            have hl : sr.length + 2 ≤ 60 := by simp only [List.length_cons] at hv; omega
            have ha := hp sr.length (by simp; omega)
            have hb := hp (sr.length + 1) (by simp)
            simp only [List.length_cons, show sr.length + 1 + 1 - 1 - sr.length = 1 by omega, show sr.length + 1 + 1 - 1 - (sr.length + 1) = 0 by omega] at ha hb
            refine ⟨fun z => absurd z c.1, fun _ => ⟨fun _ => ⟨fun _ => ?_, fun z => absurd z c.2.2⟩, fun z => absurd z c.2.1⟩⟩
            simp only [List.length_cons, nI_m1, nI_sub1]
            refine ⟨vp_in_nI (by omega) (by decide), vp_in_nI (by omega) (by decide), ?_⟩
            rw [nI_clamp (by omega), nI_clamp (by omega), ha, hb]
            refine m_both (by omega) qk _ _ hk ?_
            simp only [rL_some, mdq_0 H, mdq_40 H, mds_40 H, true_and]
            refine ⟨vp_in_nI (by omega) (by decide), ?_⟩
            exact next _ (jn qk a b :: sr) (Fr'.sL rfl) (by rw [ev1_op hk]) (by simp only [List.length_cons] at hst ⊢; omega) (by simp only [List.length_cons] at hv ⊢; omega) (pile_two hp)
theorem m_answer {d : Nat} {h : AH} {Q : Option Value → AH → Prop} (hd : 7 ≤ d) (m s0 o : Nat) (ops : List (Nat × Nat)) (wd : Nat → Int64) (t : Bool) (H : ModAt h m) (hs0 : s0 < 6) (ho : o + ops.length ≤ 300) (hseg : rseg (hI h (m + 22)) (hI h (m + 23)) (300 * s0 + o) ops) (hwd : ∀ j, j < 12 → hL h (m + 29) j = wd j) (hv : vals ops ≤ 60) (hty : tys ops [] = some [t]) (k : ∀ h', Fr' h h' (fun b => b = m + 30) → Q (some (.long ((evs wd ops []).headD 0))) h') : Calls d nX12_answer [.ref m, .int (nI s0), .int (nI o), .int (nI (o + ops.length))] h (hN h) (hU h) Q := by
  obtain ⟨e, rfl⟩ : ∃ e, d = e + 1 := ⟨d - 1, by omega⟩
  refine wX12_answer (by omega) m (nI s0) (nI o) (nI (o + ops.length)) ?_
  exact an_loop (by omega) m s0 (o + ops.length) _ _ wd t hs0 ho ops o [] [] h rfl hseg H (fun _ => rfl) (fun _ => rfl) hwd rfl (by simpa using hv) hty (fun j hj => absurd hj (Nat.not_lt_zero j)) rfl rfl (fun h' v f ev => by have := k h' f; rw [ev] at this; exact this)
/-- truths are 0 or 1 -/
def okSt : List Bool → List Int64 → Prop
  | [], [] => True
  | b :: t, v :: s => (b = true → v = 0 ∨ v = 1) ∧ okSt t s
  | _, _ => False
theorem ok01 (c : Prop) [Decidable c] : (if c then (1 : Int64) else 0) = 0 ∨ (if c then (1 : Int64) else 0) = 1 := by
  by_cases h : c <;> simp [h]
theorem ev1_ok {wd : Nat → Int64} {q : Nat × Nat} {t t' : List Bool} {s : List Int64} (ho : opOk q) (h : okSt t s) (ht : tst q.1 t = some t') : okSt t' (ev1 wd q s) := by
  obtain ⟨qk, qv⟩ := q
  rcases ho with ⟨hk, hlt⟩ | ⟨hk, hlt⟩ | hk | hk
  · simp only at hk
    subst hk
    simp only [tst, Option.some.injEq] at ht
    subst ht
    exact ⟨fun z => absurd z (by decide), h⟩
  · simp only at hk
    subst hk
    simp only [tst, Option.some.injEq] at ht
    subst ht
    exact ⟨fun z => absurd z (by decide), h⟩
  · simp only at hk
    subst hk
    simp only [tst] at ht
    split at ht
    · cases ht
      cases s with
      | nil => exact h.elim
      | cons a r =>
        refine ⟨fun z => ?_, h.2⟩
        rcases h.1 rfl with e | e <;> rw [e] <;> decide
    · cases ht
  · simp only at hk ht
    rcases isOp_cases hk with rfl | rfl | rfl | rfl | rfl | rfl | rfl | rfl | rfl | rfl | rfl | rfl
    all_goals simp only [tst] at ht
    all_goals split at ht
    all_goals first
      | (cases ht; done)
      | skip
    all_goals cases ht
    all_goals (cases s with
      | nil => exact h.elim
      | cons b s2 => cases s2 with
        | nil => exact h.2.elim
        | cons a r =>
          refine ⟨fun z => ?_, h.2.2⟩
          first
            | (exact absurd z (by decide))
            | (simp only [ev1, jn]; exact ok01 _)
            | (simp only [ev1, jn]; rcases h.1 rfl with e | e <;> rcases h.2.1 rfl with e2 | e2 <;> rw [e, e2] <;> decide))
theorem evs_ok {wd : Nat → Int64} : ∀ {ops : List (Nat × Nat)} {t t' : List Bool} {s : List Int64}, (∀ q ∈ ops, opOk q) → okSt t s → tys ops t = some t' → okSt t' (evs wd ops s)
  | [], t, t', s, _, h, ht => by
    simp only [tys, Option.some.injEq] at ht
    subst ht
    exact h
  | q :: r, t, t', s, ho, h, ht => by
    simp only [tys] at ht
    cases hq : tst q.1 t with
    | none => rw [hq] at ht; cases ht
    | some t1 =>
      rw [hq] at ht
      show okSt t' (evs wd r (ev1 wd q s))
      exact evs_ok (ops := r) (fun q hq => ho q (List.mem_cons_of_mem _ hq)) (ev1_ok (ho q List.mem_cons_self) h hq) ht
theorem test01 {wd : Nat → Int64} {ops : List (Nat × Nat)} (ho : ∀ q ∈ ops, opOk q) (ht : tys ops [] = some [true]) : (¬ (evs wd ops []).headD 0 = 0) = ((evs wd ops []).headD 0 = 1) := by
  have h := evs_ok (wd := wd) ho (show okSt [] [] from True.intro) ht
  cases hs : evs wd ops [] with
  | nil => rw [hs] at h; exact h.elim
  | cons a r =>
    rw [hs] at h
    rcases h.1 rfl with e | e <;> subst e <;> simp
