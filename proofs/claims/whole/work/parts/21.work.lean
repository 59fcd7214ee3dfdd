/-! a rule's steps worked on a pile -/
theorem cd0 {v : Nat} (h : v < 100000) : ¬ nI v ≤ -19 ∧ ¬ nI v < 0 := by
  have h1 := nI_toInt (show v < 2 ^ 31 by omega)
  have h2 : (-19 : Int32).toInt = -19 := by decide
  have h3 : (0 : Int32).toInt = 0 := by decide
  constructor
  · rw [Int32.le_iff_toInt_le]; omega
  · rw [Int32.lt_iff_toInt_lt]; omega
theorem cd1 : ∀ v, v < 12 → ¬ ((-1 : Int32) - nI v) ≤ -19 ∧ ((-1 : Int32) - nI v) < 0 ∧ (-1 : Int32) - ((-1) - nI v) = nI v := by decide
theorem cd9 (v : Nat) : cdI (9, v) = -32 := rfl
theorem cdop {k : Nat} (v : Nat) (h : isOp k = true) : cdI (k, v) ≤ -19 ∧ ¬ cdI (k, v) = -32 := by
  rcases isOp_cases h with rfl | rfl | rfl | rfl | rfl | rfl | rfl | rfl | rfl | rfl | rfl | rfl <;> simp only [cdI] <;> decide
theorem ev1_op {wd : Nat → Int64} {k v : Nat} {a b : Int64} {r : List Int64} (h : isOp k = true) : ev1 wd (k, v) (b :: a :: r) = jn k a b :: r := by
  rcases isOp_cases h with rfl | rfl | rfl | rfl | rfl | rfl | rfl | rfl | rfl | rfl | rfl | rfl <;> rfl
theorem tst_op {k : Nat} {t t' : List Bool} (h : isOp k = true) (e : tst k t = some t') : ∃ x y z r, t = x :: y :: r ∧ t' = z :: r := by
  rcases isOp_cases h with rfl | rfl | rfl | rfl | rfl | rfl | rfl | rfl | rfl | rfl | rfl | rfl <;> simp only [tst] at e <;> split at e <;> first
    | (cases e; exact ⟨_, _, _, _, rfl, rfl⟩)
    | cases e
theorem vals_op {k v : Nat} {r : List (Nat × Nat)} (h : isOp k = true) : vals ((k, v) :: r) = vals r := by
  rcases isOp_cases h with rfl | rfl | rfl | rfl | rfl | rfl | rfl | rfl | rfl | rfl | rfl | rfl <;> simp [vals]
def pileIs (h : AH) (P : Nat) (s : List Int64) : Prop := ∀ j, j < s.length → hL h P j = s.getD (s.length - 1 - j) 0
theorem pile_push {h : AH} {P : Nat} {s : List Int64} {v : Int64} (k : pileIs h P s) : pileIs (sL h P s.length v) P (v :: s) := fun j hj => by
  rw [hL_sL, if_pos rfl]
  simp only [List.length_cons] at hj ⊢
  by_cases e : j = s.length
  · subst e
    rw [if_pos rfl, show s.length + 1 - 1 - s.length = 0 by omega]; rfl
  · rw [if_neg e, k j (by omega), show s.length + 1 - 1 - j = (s.length - 1 - j) + 1 by omega]; rfl
theorem pile_top {h : AH} {P : Nat} {r : List Int64} {a v : Int64} (k : pileIs h P (a :: r)) : pileIs (sL h P r.length v) P (v :: r) := fun j hj => by
  rw [hL_sL, if_pos rfl]
  simp only [List.length_cons] at hj ⊢
  by_cases e : j = r.length
  · subst e
    rw [if_pos rfl, show r.length + 1 - 1 - r.length = 0 by omega]; rfl
  · have := k j (by simpa using hj)
    simp only [List.length_cons] at this
    rw [if_neg e, this, show r.length + 1 - 1 - j = (r.length - 1 - j) + 1 by omega]; rfl
theorem pile_two {h : AH} {P : Nat} {r : List Int64} {a b v : Int64} (k : pileIs h P (b :: a :: r)) : pileIs (sL h P r.length v) P (v :: r) := fun j hj => by
  rw [hL_sL, if_pos rfl]
  simp only [List.length_cons] at hj ⊢
  by_cases e : j = r.length
  · subst e
    rw [if_pos rfl, show r.length + 1 - 1 - r.length = 0 by omega]; rfl
  · have := k j (by simp; omega)
    simp only [List.length_cons] at this
    rw [if_neg e, this, show r.length + 1 + 1 - 1 - j = (r.length - 1 - j) + 1 + 1 by omega, show r.length + 1 - 1 - j = (r.length - 1 - j) + 1 by omega]; rfl
theorem nI_m1 (n : Nat) : nI (n + 1) + (-1) = nI n := pk_m1 n
theorem nI_sub1 (n : Nat) : nI (n + 1) - 1 = nI n := nI_pred n
theorem wk_loop {d E1 E2 : Nat} {Q : Option Value → AH → Prop} (hd : 5 ≤ d) (r W P n1 to : Nat) (wd : Nat → Int64) (t : Bool) (hWP : W ≠ P) (hto : to ≤ n1) (hn1 : n1 < 2 ^ 31) : ∀ (ops : List (Nat × Nat)) (i : Nat) (s : List Int64) (ts : List Bool) (h : AH), i + ops.length = to → (∀ (j : Nat) (q : Nat × Nat), ops[j]? = some q → opOk q ∧ hI h (r + 1) (i + j) = cdI q) → hS h r = (16, 3) → hR h r 0 = r + 1 → hS h (r + 1) = (1, n1) → hS h W = (4, 12) → hS h P = (4, 60) → (∀ j, j < 12 → hL h W j = wd j) → s.length = ts.length → s.length + vals ops ≤ 60 → tys ops ts = some [t] → pileIs h P s → hN h = E1 → hU h = E2 → (∀ h' v, Fr' h h' (fun b => b = P) → evs wd ops s = [v] → Q (some (.long v)) h') → Reach d nX6_work (6, [.ref r, .float 0, .int (nI to), .ref W, .ref P, .int (nI s.length), .int (nI i), .float 0], []) h E1 E2 Q
  | [], i, s, ts, h, hi, hops, s0, r0, s1, sW, sP, hwd, hst, hv, hty, hp, e1, e2, k => by
    simp only [tys, Option.some.injEq] at hty
    subst hty
    have hs1 : s.length = 1 := hst
    obtain ⟨v, rfl⟩ : ∃ v, s = [v] := List.length_eq_one_iff.mp hs1
    simp only [List.length_nil, Nat.add_zero] at hi
    refine wX6_work_6 (by omega) r (nI to) W P _ (nI i) ⟨fun _ => ⟨by rw [sP], by rw [sP]; exact vp_in_nI (n := 0) (by decide) (by decide), ?_⟩, fun z => absurd (nI_le (by omega) (by omega)) z⟩
    rw [rt_l, tn0, hp 0 (by simp)]
    exact ⟨e1, e2, k h v (Fr'.refl _ _) rfl⟩
  | q :: rest, i, s, ts, h, hi, hops, s0, r0, s1, sW, sP, hwd, hst, hv, hty, hp, e1, e2, k => by
    simp only [List.length_cons] at hi
    obtain ⟨ho, hq⟩ := hops 0 q rfl
    have hq : hI h (r + 1) i = cdI q := hq
    have hops' : ∀ (j : Nat) (q : Nat × Nat), rest[j]? = some q → opOk q ∧ hI h (r + 1) (i + 1 + j) = cdI q := fun j q hj => by
      have := hops (j + 1) q (by simpa using hj)
      rwa [show i + (j + 1) = i + 1 + j by omega] at this
    simp only [tys] at hty
    cases htt : tst q.1 ts with
    | none => rw [htt] at hty; cases hty
    | some ts' =>
      rw [htt] at hty
      simp only at hty
      have hvi : vp_in (nI i) n1 := vp_in_nI (by omega) hn1
      have hci : (nI i).toNatClampNeg = i := nI_clamp (by omega)
      refine wX6_work_6 (by omega) r (nI to) W P _ (nI i) ⟨fun z => absurd z (nI_ge (by omega) (by omega)), fun _ => ?_⟩
      simp only [s0, r0, s1, hvi, hci, true_and, sP, sW, lH_eq, hS_sI, hS_sL, hS_sR, hS_cpI, hR_sI, hR_sL, hR_cpI, hL_sI, hL_sR, hL_cpI, hI_sL, hI_sR, hN_sI, hN_sL, hN_sR, hN_cpI, hU_sI, hU_sL, hU_sR, hU_cpI]
      rw [hq]
      -- go on with a new pile
      have next : ∀ (h2 : AH) (s' : List Int64), Fr' h h2 (fun b => b = P) → s' = ev1 wd q s → s'.length = ts'.length → s'.length + vals rest ≤ 60 → pileIs h2 P s' → Reach d nX6_work (6, [.ref r, .float 0, .int (nI to), .ref W, .ref P, .int (nI s'.length), .int (nI i + 1), .float 0], []) h2 E1 E2 Q := fun h2 s' f he hl hv2 hp2 => by
        rw [nI_1]
        have hr1 : r + 1 ≠ P := fun z => by rw [z, sP] at s1; cases s1
        refine wk_loop hd r W P n1 to wd t hWP hto hn1 rest (i + 1) s' ts' h2 (by omega) (fun j q hj => ⟨(hops' j q hj).1, by rw [f.2.2.2.2.1 (r + 1) hr1]; exact (hops' j q hj).2⟩) (by rw [f.1]; exact s0) (by rw [f.2.1]; exact r0) (by rw [f.1]; exact s1) (by rw [f.1]; exact sW) (by rw [f.1]; exact sP) (fun j hj => by rw [f.2.2.2.2.2 W hWP]; exact hwd j hj) hl hv2 hty hp2 (f.2.2.1.trans e1) (f.2.2.2.1.trans e2) (fun h3 v f3 e3 => k h3 v (f.trans f3) ?_)
        rw [← e3, he]; rfl
      obtain ⟨qk, qv⟩ := q
      rcases ho with ⟨hk, hlt⟩ | ⟨hk, hlt⟩ | hk | hk
      · simp only at hk hlt
        subst hk
        simp only [tst, Option.some.injEq] at htt
        subst htt
        have hvv : vals ((0, qv) :: rest) = 1 + vals rest := rfl
        have c := cd0 hlt
        rw [show cdI (0, qv) = nI qv from rfl]
        refine ⟨fun z => absurd z c.1, fun _ => ⟨by decide, by decide, fun z => absurd z (nI_ge (a := s.length) (b := 60) (by omega) (by decide)), fun _ => ⟨fun z => absurd z c.2, fun _ => ⟨vp_in_nI (by omega) (by decide), ?_⟩⟩⟩⟩
        rw [nI_clamp (by omega), nI_1]
        exact next _ ((nI qv).toInt64 :: s) (Fr'.sL rfl) rfl (by simp [hst]) (by simp; omega) (pile_push hp)
      · simp only at hk hlt
        subst hk
        simp only [tst, Option.some.injEq] at htt
        subst htt
        have hvv : vals ((1, qv) :: rest) = 1 + vals rest := rfl
        have c := cd1 qv hlt
        rw [show cdI (1, qv) = -1 - nI qv from rfl]
        refine ⟨fun z => absurd z c.1, fun _ => ⟨by decide, by decide, fun z => absurd z (nI_ge (a := s.length) (b := 60) (by omega) (by decide)), fun _ => ⟨fun _ => ?_, fun z => absurd c.2.1 z⟩⟩⟩
        rw [c.2.2]
        refine ⟨vp_in_nI hlt (by decide), vp_in_nI (by omega) (by decide), ?_⟩
        rw [nI_clamp (by omega), nI_clamp (by omega), nI_1, hwd qv hlt]
        exact next _ (wd qv :: s) (Fr'.sL rfl) rfl (by simp [hst]) (by simp; omega) (pile_push hp)
      · simp only at hk
        subst hk
        have hvv : vals ((9, qv) :: rest) = vals rest := by simp [vals]
        simp only [tst] at htt
        split at htt
        · rename_i tr
          cases htt
          cases s with
          | nil => simp at hst
          | cons a sr =>
            have hl : sr.length < 60 := by simp only [List.length_cons] at hv; omega
            have h0 := hp sr.length (by simp)
            simp only [List.length_cons, show sr.length + 1 - 1 - sr.length = 0 by omega] at h0
            refine ⟨fun _ => ⟨fun z => absurd rfl z, fun _ => ⟨fun z => absurd z (nI_nle (by simp) (by simp; omega)), fun _ => ?_⟩⟩, fun z => absurd (by rw [cd9]; decide) z⟩
            simp only [List.length_cons, nI_sub1]
            refine ⟨vp_in_nI (by omega) (by decide), vp_in_nI (by omega) (by decide), ?_⟩
            rw [nI_clamp (by omega), h0]
            exact next _ ((1 - a) :: sr) (Fr'.sL rfl) rfl (by simpa using hst) (by simp only [List.length_cons] at hv ⊢; omega) (pile_top hp)
        · cases htt
      · simp only at hk
        have hvv := vals_op (v := qv) (r := rest) hk
        obtain ⟨x, y, z9, tr, rfl, rfl⟩ := tst_op hk htt
        cases s with
        | nil => simp at hst
        | cons b s2 =>
          cases s2 with
          | nil => simp at hst
          | cons a sr =>
            have c := cdop qv hk
            have hl : sr.length + 2 ≤ 60 := by simp only [List.length_cons] at hv; omega
            have ha := hp sr.length (by simp; omega)
            have hb := hp (sr.length + 1) (by simp)
            simp only [List.length_cons, show sr.length + 1 + 1 - 1 - sr.length = 1 by omega, show sr.length + 1 + 1 - 1 - (sr.length + 1) = 0 by omega] at ha hb
            refine ⟨fun _ => ⟨fun _ => ⟨fun z => absurd z (fun y => ?_), fun _ => ?_⟩, fun z => absurd z c.2⟩, fun z => absurd c.1 z⟩
            · have := (nI_leI (a := sr.length + 1 + 1) (b := 1) (by omega) (by decide)).mp y
              omega
            · simp only [List.length_cons, nI_m1, nI_sub1]
              refine ⟨vp_in_nI (by omega) (by decide), vp_in_nI (by omega) (by decide), ?_⟩
              rw [nI_clamp (by omega), nI_clamp (by omega), ha, hb]
              refine sp_joined hd (qk, qv) _ _ hk ?_
              rw [rL_some]
              simp only [sP, true_and]
              refine ⟨vp_in_nI (by omega) (by decide), ?_⟩
              exact next _ (jn qk a b :: sr) (Fr'.sL rfl) (by rw [ev1_op hk]) (by simp only [List.length_cons] at hst ⊢; omega) (by simp only [List.length_cons] at hv ⊢; omega) (pile_two hp)
