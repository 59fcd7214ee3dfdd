/-! the reference: words and numbers on the tape -/
theorem msl_loop {d E1 E2 : Nat} {Q : Option Value → AH → Prop} {h : AH} (hd : 4 ≤ d) (m n p k : Nat) (t : Nat → Int32) (H : MTp h m n t) (hk : k < 18) (hp : p ≤ n) (e22 : hI h m 22 = nI p) (n1 : hN h = E1) (n2 : hU h = E2) (kk : Q (some (.int (bI (eqW t p (ru isLt t n p) k)))) h) : ∀ w i : Nat, i + w = n → p ≤ i → ru isLt t n p = ru isLt t n i → Reach d nX12_stood (5, [.ref m, .retAddr (stI k), .int (nI i), .float 0, .float 0], []) h E1 E2 Q := by
  obtain ⟨s1, s2, s3, s4, s5⟩ := stI_ok k hk
  have HM := H.1
  have hn := H.2.2.1
  have eo : Int32.ofNat (wd k).length = nI (wd k).length := rfl
  have ex : ∀ i, i ≤ n → p ≤ i → ru isLt t n p = i → (¬ (nI i - nI p = nI (wd k).length) → Reach d nX12_stood (63, [.ref m, .retAddr (stI k), .float 0, .int 0, .int 0], []) h E1 E2 Q) ∧ (nI i - nI p = nI (wd k).length → Reach d nX12_stood (63, [.ref m, .retAddr (stI k), .float 0, .int 1, .int 0], []) h E1 E2 Q) := fun i h1 h2 er => by
    rw [er] at kk
    have es : nI i - nI p = nI (i - p) := pk_sub (by omega)
    rw [es, nI_eq_iff (show i - p < 2 ^ 31 by omega) (show (wd k).length < 2 ^ 31 by omega)]
    refine ⟨fun z => ?_, fun z => ?_⟩
    · have no : ¬ eqW t p i k := fun y => z (by have := y.1; omega)
      rw [bI_f no] at kk
      refine wX12_stood_63 hd m (stI k) 0 0 ?_
      simp only [s2, s3, eo, rt_i, rt_b0, rt_b1, rt_v, rt_l, rt_o, rt_a, rV_none, rI_some, rL_some, rR_some, rT_some, rt_b0, true_and]
      exact ⟨s1, fun _ => ⟨n1, n2, kk⟩, fun _ => ⟨fun _ => ⟨n1, n2, kk⟩, fun z => by first | exact absurd rfl z | exact absurd trivial z⟩⟩
    · exact ms_loop hd m n p i k t H hk e22 h1 (by omega) n1 n2 kk (wd k).length 0 (by omega) (fun j hj => absurd hj (Nat.not_lt_zero j))
  intro w
  induction w with
  | zero =>
    intro i hi hpi er
    have x := ex i (by omega) hpi (er.trans (ru_end (by omega)))
    refine wX12_stood_5 hd m (stI k) (nI i) ?_
    simp only [mdq_0 HM, H.2.1, e22, s3, eo, nI_le_iff (show n < 2 ^ 31 by omega) (show i < 2 ^ 31 by omega), true_and]
    exact ⟨fun _ => ⟨s1, x⟩, fun z => absurd (by omega) z⟩
  | succ w ih =>
    intro i hi hpi er
    have hT := H.2.2.2.1 i (by omega)
    have iff : (isLt (t i) = true) ↔ (97 ≤ t i ∧ t i ≤ 122) := decide_eq_true_iff
    refine wX12_stood_5 hd m (stI k) (nI i) ?_
    simp only [mdq_0 HM, mdq_31 HM, mds_31 HM, H.2.1, e22, s3, eo, nI_le_iff (show n < 2 ^ 31 by omega) (show i < 2 ^ 31 by omega), nI_clamp (show i < 2 ^ 31 by omega), hT, true_and, true_or, nI_1, vp_in_nI (show i < 400 by omega) (show 400 < 2 ^ 31 by decide)]
    refine ⟨fun z => absurd z (by omega), fun _ => ⟨fun z => ⟨s1, ?_⟩, fun z => ⟨fun y => ⟨s1, ?_⟩, fun y => ?_⟩⟩⟩
    · exact ex i (by omega) hpi (er.trans (ru_no (fun c => absurd z (Int32.not_lt.mpr (iff.mp c).1))))
    · exact ex i (by omega) hpi (er.trans (ru_no (fun c => absurd y (Int32.not_lt.mpr (iff.mp c).2))))
    · exact ih (i + 1) (by omega) (by omega) (er.trans (ru_go (by omega) (iff.mpr ⟨Int32.not_lt.mp z, Int32.not_lt.mp y⟩)))
theorem m_stood {d : Nat} {h : AH} {Q : Option Value → AH → Prop} (hd : 5 ≤ d) (m n p k v : Nat) (t : Nat → Int32) (hv : v = stI k) (H : MTp h m n t) (hk : k < 18) (hp : p ≤ n) (e22 : hI h m 22 = nI p) (kk : Q (some (.int (bI (eqW t p (ru isLt t n p) k)))) h) : Calls d nX12_stood [.ref m, .retAddr v] h (hN h) (hU h) Q := by
  obtain ⟨e, rfl⟩ : ∃ e, d = e + 1 := ⟨d - 1, by omega⟩
  subst hv
  refine wX12_stood (by omega) m (stI k) ?_
  simp only [mdq_0 H.1, e22, true_and]
  exact msl_loop (by omega) m n p k t H hk hp e22 rfl rfl kk (n - p) p (by omega) (Nat.le_refl _) rfl
/-- a word stands there, in both tellings -/
theorem isWd_eq {t : Nat → Int32} {n q k : Nat} (hk : k < 18) (hq : q ≤ n) : (isWd t n q k) = (eqW t q (ru isLt t n q) k) := by
  obtain ⟨-, -, -, s4, s5⟩ := stI_ok k hk
  apply propext
  constructor
  · rintro ⟨h1, h2⟩
    have hqn : ¬ n ≤ q := fun c => by unfold tkK at h1; rw [if_pos c] at h1; cases h1
    have hg : ¬ isDg (t q) = true := fun c => by unfold tkK at h1; rw [if_neg hqn, if_pos c] at h1; cases h1
    have hl : isLt (t q) = true := by
      by_cases c : isLt (t q) = true
      · exact c
      · unfold tkK at h1; rw [if_neg hqn, if_neg hg, if_neg c] at h1; cases h1
    have eE : tkE t n q = ru isLt t n q := by unfold tkE; rw [if_neg hqn, if_neg hg, if_pos hl]
    rw [eE] at h2
    exact h2
  · intro h
    have hgt : q < ru isLt t n q := by have := h.1; omega
    have hqn : ¬ n ≤ q := fun c => by rw [ru_end c] at hgt; omega
    have hl : isLt (t q) = true := by
      by_cases c : isLt (t q) = true
      · exact c
      · rw [ru_no c] at hgt; omega
    have hg : ¬ isDg (t q) = true := fun c => by
      have i1 : (isDg (t q) = true) ↔ (48 ≤ t q ∧ t q ≤ 57) := decide_eq_true_iff
      have i2 : (isLt (t q) = true) ↔ (97 ≤ t q ∧ t q ≤ 122) := decide_eq_true_iff
      exact absurd (Int32.le_trans (i2.mp hl).1 (i1.mp c).2) (by decide)
    have eE : tkE t n q = ru isLt t n q := by unfold tkE; rw [if_neg hqn, if_neg hg, if_pos hl]
    refine ⟨?_, by rw [eE]; exact h⟩
    unfold tkK
    rw [if_neg hqn, if_neg hg, if_pos hl]
theorem dg_val {c : Int32} (h : isDg c = true) : ∃ d, d < 10 ∧ c = nI (48 + d) := by
  have i1 : (isDg c = true) ↔ (48 ≤ c ∧ c ≤ 57) := decide_eq_true_iff
  obtain ⟨h1, h2⟩ := i1.mp h
  obtain ⟨r, hr, rfl⟩ := rg_of (n := 57) rfl (by decide) ⟨Int32.le_trans (by decide) h1, h2⟩
  have : (48 : Nat) ≤ r := by
    have e : ((nI 48) ≤ nI r) = (48 ≤ r) := nI_le_iff (by decide) (by omega)
    exact e ▸ h1
  exact ⟨r - 48, by omega, by rw [show 48 + (r - 48) = r by omega]⟩
theorem nu_val {t : Nat → Int32} {q : Nat} : ∀ j, j ≤ 5 → (∀ i, i < j → isDg (t (q + i)) = true) → ∃ m, m < 10 ^ j ∧ nuF t q j = nI m
  | 0, _, _ => ⟨0, by decide, rfl⟩
  | j + 1, hj, h => by
    obtain ⟨m, hm, e⟩ := nu_val j (by omega) (fun i hi => h i (by omega))
    obtain ⟨d, hd, ed⟩ := dg_val (h j (by omega))
    refine ⟨m * 10 + d, by rw [Nat.pow_succ]; omega, ?_⟩
    have eS : nuF t q (j + 1) = nuF t q j * 10 + t (q + j) - 48 := if_pos (by omega)
    rw [eS, e, ed, show (10 : Int32) = nI 10 from rfl, pk_mul, nI_add, show (48 : Int32) = nI 48 from rfl, pk_sub (show 48 ≤ m * 10 + (48 + d) by omega), show m * 10 + (48 + d) - 48 = m * 10 + d by omega]
def dgF (t : Nat → Int32) (n q : Nat) (fa : Int32) : Int32 := if tkK t n q = 1 then (if 0 ≤ tkV t n q then fa else rfF fa q 1) else rfF fa q 0
theorem tkK_1 {t : Nat → Int32} {n q : Nat} : (tkK t n q = 1) = (q < n ∧ isDg (t q) = true) := by
  apply propext
  constructor
  · intro h
    have hqn : ¬ n ≤ q := fun c => by unfold tkK at h; rw [if_pos c] at h; cases h
    refine ⟨by omega, ?_⟩
    by_cases c : isDg (t q) = true
    · exact c
    · unfold tkK at h
      rw [if_neg hqn, if_neg c] at h
      split at h <;> cases h
  · rintro ⟨h1, h2⟩
    unfold tkK
    rw [if_neg (by omega), if_pos h2]
theorem md_loop {d E1 E2 : Nat} {Q : Option Value → AH → Prop} (hd : 6 ≤ d) (m n q : Nat) (t : Nat → Int32) (hq : q < n) (hg : isDg (t q) = true) : ∀ (w i : Nat) (h : AH), i + w = n → q ≤ i → ru isDg t n q = ru isDg t n i → MTp h m n t → hI h m 22 = nI i → hN h = E1 → hU h = E2 → (∀ h' v, Fr' h h' (fun c => c = m) → (∀ j, j ≠ 22 → j ≠ 23 → hI h' m j = hI h m j) → hI h' m 22 = nI (tkE t n q) → hI h' m 23 = dgF t n q (hI h m 23) → (0 ≤ tkV t n q → v = tkV t n q) → Q (some (.int v)) h') → Reach d nX12_digits (25, [.ref m, .int 99999, .int (nI q), .int (nuF t q (min (i - q) 5))], []) h E1 E2 Q := by
  have hK : tkK t n q = 1 := by rw [tkK_1]; exact ⟨hq, hg⟩
  have eE : tkE t n q = ru isDg t n q := by unfold tkE; rw [if_neg (by omega), if_pos hg]
  have eV : tkV t n q = nuF t q (tkE t n q - q) := by unfold tkV; rw [if_pos hg]
  intro w
  induction w using Nat.strongRecOn with
  | _ w ih =>
    intro i h hi hqi er H e22 n1 n2 k
    have hn := H.2.2.1
    have HM := H.1
    have es : nI i - nI q = nI (i - q) := pk_sub (by omega)
    have c5 : ((5 : Int32) < nI (i - q)) = (5 < i - q) := nI_lt_iff (a := 5) (by decide) (by omega)
    have c6 : ((5 : Int32) ≤ nI (i - q)) = (5 ≤ i - q) := nI_le_iff (a := 5) (by decide) (by omega)
    refine wX12_digits_25 (by omega) m 99999 (nI q) _ ?_
    simp only [mdq_0 HM, true_and]
    refine m_isDigit (by omega) m n i t H (by omega) e22 ?_
    simp only [rI_some, bI0, mdq_0 HM, e22, es, c5, c6, true_and, lH_eq, nI_1, rt_i]
    refine ⟨fun z => ?_, fun z => ?_⟩
    · have er' : ru isDg t n q = i := er.trans (by
        by_cases c : i < n
        · exact ru_no (fun y => z ⟨c, y⟩)
        · exact ru_end (by omega))
      have eE' : tkE t n q = i := eE.trans er'
      have hj : q < i := by have := (tkE_gt (t := t) hq).1; omega
      rw [eE'] at k eV
      have bad : ∀ v, ¬ 0 ≤ tkV t n q → Calls d nX12_fails [.ref m, .int (nI 1), .int (nI q)] h (hN h) (hU h) (fun r5 h4 => rV r5 (hN h4 = E1 ∧ hU h4 = E2 ∧ Q (some (.int v)) h4)) := fun v y => by
        refine m_fails (by omega) m 1 q HM (fun h' f g g2 => ?_)
        rw [rV_none]
        refine ⟨f.2.2.1.trans n1, f.2.2.2.1.trans n2, k h' v f (fun j _ h2 => g j h2) ((g 22 (by decide)).trans e22) ?_ (fun x => absurd x y)⟩
        rw [g2]
        unfold dgF
        rw [if_pos hK, if_neg y]
      refine ⟨fun y => bad _ ?_, fun y => ?_⟩
      · rw [eV, show i - q = (i - q - 1) + 1 by omega]
        have : nuF t q (i - q - 1 + 1) = -1 := if_neg (by omega)
        rw [this]
        decide
      · rw [Nat.min_eq_left (by omega)]
        obtain ⟨mm, hm, em⟩ := nu_val (t := t) (q := q) (i - q) (by omega) (fun l hl => ru_in (P := isDg) (n := n) (p := q) (by omega) (by omega))
        have hm5 : mm < 100000 := Nat.lt_of_lt_of_le hm (Nat.pow_le_pow_right (n := 10) (by decide) (show i - q ≤ 5 by omega))
        rw [em]
        have le : ((nI mm) ≤ (99999 : Int32)) = (mm ≤ 99999) := nI_le_iff (b := 99999) (by omega) (by decide)
        rw [le]
        refine ⟨fun _ => ⟨n1, n2, k h _ (Fr'.refl _ _) (fun _ _ _ => rfl) e22 ?_ (fun _ => by rw [eV, em])⟩, fun x => absurd (by omega) x⟩
        unfold dgF
        rw [if_pos hK, eV, em, if_pos]
        exact (nI_le_iff (a := 0) (by decide) (show mm < 2 ^ 31 by omega)).mpr (Nat.zero_le mm)
    · have z := Decidable.not_not.mp z
      have er' : ru isDg t n q = ru isDg t n (i + 1) := er.trans (ru_go z.1 z.2)
      have f : Fr' h (sI h m 22 (nI (i + 1))) (fun c => c = m) := Fr'.sI rfl
      have g : ∀ j, j ≠ 22 → hI (sI h m 22 (nI (i + 1))) m j = hI h m j := fun j hj => by rw [hI_sI, if_pos rfl, if_neg hj]
      have go := ih (w - 1) (by omega) (i + 1) (sI h m 22 (nI (i + 1))) (by omega) (by omega) er' (H.fr f (g 21 (by decide)) (by omega)) (by rw [hI_sI, if_pos rfl, if_pos rfl]) n1 n2 (fun h' v f' g' q1 q2 q3 => k h' v (f.trans f') (fun j h1 h2 => (g' j h1 h2).trans (g j h1)) q1 (by rw [q2, g 23 (by decide)]) q3)
      refine ⟨fun y => ?_, fun y => ?_⟩
      · rw [show min (i + 1 - q) 5 = min (i - q) 5 by omega] at go
        exact go
      · refine m_sign (by omega) m n i t H (by omega) e22 ?_
        have sg : sgF t n i = t i := by
          unfold sgF
          rw [if_pos z.1]
          rcases by_and (H.2.2.2.2 i z.1) with ⟨a, b⟩ | ⟨a, b⟩
          · exact b
          · obtain ⟨dd, hdd, ed⟩ := dg_val z.2
            rw [ed] at a
            have := (nI_lt_iff (show 48 + dd < 2 ^ 31 by omega) (b := 0) (by decide)).mp a
            omega
        simp only [rI_some, mdq_0 HM, e22, true_and, lH_eq, nI_1]
        rw [show min (i + 1 - q) 5 = (i - q) + 1 by omega] at go
        rw [show min (i - q) 5 = i - q by omega, sg]
        have eS : nuF t q (i - q + 1) = nuF t q (i - q) * 10 + t (q + (i - q)) - 48 := if_pos (by omega)
        rw [eS, show q + (i - q) = i by omega, Int32.mul_comm] at go
        exact go
theorem m_digits {d : Nat} {h : AH} {Q : Option Value → AH → Prop} (hd : 7 ≤ d) (m n q : Nat) (t : Nat → Int32) (H : MTp h m n t) (hq : q ≤ n) (e22 : hI h m 22 = nI q) (k : ∀ h' v p', Fr' h h' (fun c => c = m) → (∀ j, j ≠ 22 → j ≠ 23 → hI h' m j = hI h m j) → p' ≤ n → hI h' m 22 = nI p' → hI h' m 23 = dgF t n q (hI h m 23) → (tkK t n q = 1 → p' = tkE t n q) → (tkK t n q = 1 → 0 ≤ tkV t n q → v = tkV t n q) → Q (some (.int v)) h') : Calls d nX12_digits [.ref m, .int 99999] h (hN h) (hU h) Q := by
  obtain ⟨e, rfl⟩ : ∃ e, d = e + 1 := ⟨d - 1, by omega⟩
  have HM := H.1
  have hn := H.2.2.1
  have hE := tkE_le (t := t) hq
  refine wX12_digits (by omega) m 99999 ?_
  simp only [mdq_0 HM, true_and]
  refine m_isDigit (by omega) m n q t H (by omega) e22 ?_
  simp only [rI_some, bI0, mdq_0 HM, e22, true_and]
  refine ⟨fun z => ?_, fun z => ?_⟩
  · have z := Decidable.not_not.mp z
    have := md_loop (E1 := hN h) (E2 := hU h) (Q := Q) (d := e) (by omega) m n q t z.1 z.2 (n - q) q h (by omega) (Nat.le_refl _) rfl H e22 rfl rfl (fun h' v f g q1 q2 q3 => k h' v _ f g hE.2 q1 q2 (fun _ => rfl) (fun _ => q3))
    rw [show min (q - q) 5 = 0 by omega] at this
    exact this
  · refine m_fails (by omega) m 0 q HM (fun h' f g g2 => ?_)
    rw [rV_none, rt_i]
    have hK : ¬ tkK t n q = 1 := by rw [tkK_1]; exact z
    refine ⟨f.2.2.1, f.2.2.2.1, k h' 0 q f (fun j _ h2 => g j h2) hq ((g 22 (by decide)).trans e22) ?_ (fun x => absurd x hK) (fun x => absurd x hK)⟩
    rw [g2]
    unfold dgF
    rw [if_neg hK]
theorem rfF_st {fa : Int32} {q c : Nat} (h : ¬ fa = 0) : rfF fa q c = fa := if_neg h
theorem nbF_st {t : Nat → Int32} {n q : Nat} {lo hi fa : Int32} (h : ¬ fa = 0) : nbF t n q lo hi fa = fa := by
  unfold nbF
  split
  · split
    · rfl
    · exact rfF_st h
  · exact rfF_st h
theorem m_amount {d : Nat} {h : AH} {Q : Option Value → AH → Prop} (hd : 8 ≤ d) (m n p : Nat) (lo hi : Int32) (t : Nat → Int32) (hlo : 0 ≤ lo) (H : MTp h m n t) (hp : p ≤ n) (e22 : hI h m 22 = nI p) (k : ∀ h' v p', Fr' h h' (fun c => c = m) → (∀ j, j ≠ 22 → j ≠ 23 → hI h' m j = hI h m j) → p' ≤ n → hI h' m 22 = nI p' → hI h' m 23 = nbF t n (sk t n p) lo hi (hI h m 23) → (nbF t n (sk t n p) lo hi (hI h m 23) = 0 → p' = tkE t n (sk t n p) ∧ v = tkV t n (sk t n p)) → Q (some (.int v)) h') : Calls d nX12_amount [.ref m, .int lo, .int hi] h (hN h) (hU h) Q := by
  obtain ⟨e, rfl⟩ : ∃ e, d = e + 1 := ⟨d - 1, by omega⟩
  have HM := H.1
  have hn := H.2.2.1
  have hs : sk t n p ≤ n := ru_le hp
  refine wX12_amount (by omega) m lo hi ?_
  simp only [mdq_0 HM, true_and]
  refine m_blanks (by omega) m n p t H hp e22 (fun h1 f1 g1 g2 => ?_)
  have H1 := H.fr f1 (g1 21 (by decide)) (by omega)
  have HM1 := H1.1
  simp only [rV_none, mdq_0 HM1, g1 23 (by decide), g2, true_and, rt_i]
  generalize sk t n p = q at *
  generalize hfa : hI h m 23 = fa at *
  refine ⟨fun z => ⟨fun _ => ?_, fun y => absurd y z⟩, fun z => ?_⟩
  · rw [nbF_st z] at k
    exact ⟨f1.2.2.1, f1.2.2.2.1, k h1 0 q f1 (fun j h2 _ => g1 j h2) hs g2 (g1 23 (by decide) ▸ hfa) (fun y => absurd y z)⟩
  · subst z
    have g23 : hI h1 m 23 = 0 := (g1 23 (by decide)).trans hfa
    refine m_digits (by omega) m n q t H1 hs g2 (fun h2 v p' f2 g3 hp' q1 q2 q3 q4 => ?_)
    have HM2 := HM1.fr f2
    rw [g23] at q2
    simp only [rI_some, mdq_0 HM2, q2, true_and]
    have F2 : Fr' h h2 (fun c => c = m) := f1.trans f2
    have G2 : ∀ j, j ≠ 22 → j ≠ 23 → hI h2 m j = hI h m j := fun j a b => (g3 j a b).trans (g1 j a)
    refine ⟨fun z => ?_, fun z => ?_⟩
    · have eb : nbF t n q lo hi 0 = dgF t n q 0 := by
        unfold nbF dgF at *
        by_cases c : tkK t n q = 1
        · rw [if_pos c] at z ⊢
          rw [if_pos c]
          by_cases c2 : 0 ≤ tkV t n q
          · rw [if_pos c2] at z
            exact absurd rfl z
          · rw [if_neg c2, if_neg (fun y => c2 (Int32.le_trans hlo y.1))]
        · rw [if_neg c, if_neg c]
      rw [eb] at k
      exact ⟨F2.2.2.1, F2.2.2.2.1, k h2 v p' F2 G2 hp' q1 q2 (fun y => absurd y z)⟩
    · have hK : tkK t n q = 1 := by
        by_cases c : tkK t n q = 1
        · exact c
        · unfold dgF at z; rw [if_neg c] at z; exact absurd z (rfF_ne (fa := 0) (q := q) (c := 0) (by omega) (by omega))
      have hV : 0 ≤ tkV t n q := by
        by_cases c : 0 ≤ tkV t n q
        · exact c
        · unfold dgF at z; rw [if_pos hK, if_neg c] at z; exact absurd z (rfF_ne (fa := 0) (q := q) (c := 1) (by omega) (by omega))
      have ev := q4 hK hV
      refine m_in32 (by omega) v lo hi rfl rfl rfl ?_
      simp only [rI_some, bI0, mdq_0 HM2, true_and]
      refine ⟨fun y => ?_, fun y => ?_⟩
      · have y := Decidable.not_not.mp y
        rw [ev] at y
        have eb : nbF t n q lo hi 0 = 0 := by unfold nbF; rw [if_pos hK, if_pos y]
        rw [eb] at k
        exact ⟨F2.2.2.1, F2.2.2.2.1, k h2 v p' F2 G2 hp' q1 (q2.trans z) (fun _ => ⟨q3 hK, ev⟩)⟩
      · rw [ev] at y
        have eb : nbF t n q lo hi 0 = rfF 0 q 1 := by unfold nbF; rw [if_pos hK, if_neg y]
        rw [eb] at k
        refine m_fails (by omega) m 1 q HM2 (fun h3 f3 g4 g5 => ?_)
        rw [q2, z] at g5
        rw [rV_none]
        exact ⟨f3.2.2.1.trans F2.2.2.1, f3.2.2.2.1.trans F2.2.2.2.1, k h3 v p' (F2.trans f3) (fun j a b => (g4 j b).trans (G2 j a b)) hp' ((g4 22 (by decide)).trans q1) g5 (fun w => absurd w (rfF_ne (fa := 0) (q := q) (c := 1) (by omega) (by omega)))⟩
