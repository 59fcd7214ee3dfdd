/-! the tape as tokens -/
def isSp (c : Int32) : Bool := decide (c = 32)
def isDg (c : Int32) : Bool := decide (48 ≤ c ∧ c ≤ 57)
def isLt (c : Int32) : Bool := decide (97 ≤ c ∧ c ≤ 122)
/-- the end of a run of such signs from p -/
def ruF (P : Int32 → Bool) (t : Nat → Int32) : Nat → Nat → Nat
  | 0, p => p
  | f + 1, p => if P (t p) = true then ruF P t f (p + 1) else p
def ru (P : Int32 → Bool) (t : Nat → Int32) (n p : Nat) : Nat := ruF P t (n - p) p
theorem ru_end {P : Int32 → Bool} {t : Nat → Int32} {n p : Nat} (h : n ≤ p) : ru P t n p = p := by
  unfold ru
  rw [show n - p = 0 by omega]
  rfl
theorem ru_no {P : Int32 → Bool} {t : Nat → Int32} {n p : Nat} (h : ¬ P (t p) = true) : ru P t n p = p := by
  unfold ru
  cases n - p with
  | zero => rfl
  | succ f => exact if_neg h
theorem ru_go {P : Int32 → Bool} {t : Nat → Int32} {n p : Nat} (h : p < n) (h2 : P (t p) = true) : ru P t n p = ru P t n (p + 1) := by
  unfold ru
  rw [show n - p = (n - (p + 1)) + 1 by omega]
  exact if_pos h2
theorem ruF_ge {P : Int32 → Bool} {t : Nat → Int32} : ∀ f p, p ≤ ruF P t f p ∧ ruF P t f p ≤ p + f
  | 0, p => ⟨Nat.le_refl _, Nat.le_refl _⟩
  | f + 1, p => by
    unfold ruF
    split
    · have := ruF_ge (P := P) (t := t) f (p + 1)
      omega
    · omega
theorem ru_ge {P : Int32 → Bool} {t : Nat → Int32} {n p : Nat} : p ≤ ru P t n p := (ruF_ge _ _).1
theorem ru_le {P : Int32 → Bool} {t : Nat → Int32} {n p : Nat} (h : p ≤ n) : ru P t n p ≤ n := by
  have := (ruF_ge (P := P) (t := t) (n - p) p).2
  unfold ru
  omega
theorem ruF_stop {P : Int32 → Bool} {t : Nat → Int32} : ∀ f p, ruF P t f p < p + f → ¬ P (t (ruF P t f p)) = true
  | 0, p => fun h => absurd h (by unfold ruF; omega)
  | f + 1, p => by
    unfold ruF
    split
    · intro h
      exact ruF_stop f (p + 1) (by omega)
    · rename_i h
      exact fun _ => h
theorem ru_stop {P : Int32 → Bool} {t : Nat → Int32} {n p : Nat} (h : ru P t n p < n) : ¬ P (t (ru P t n p)) = true := by
  have g := ru_ge (P := P) (t := t) (n := n) (p := p)
  exact ruF_stop (n - p) p (by unfold ru at h g; omega)
theorem ruF_in {P : Int32 → Bool} {t : Nat → Int32} : ∀ f p j, p ≤ j → j < ruF P t f p → P (t j) = true
  | 0, p, j => fun h1 h2 => absurd h2 (by unfold ruF; omega)
  | f + 1, p, j => by
    unfold ruF
    split
    · rename_i h
      intro h1 h2
      by_cases c : j = p
      · rw [c]; exact h
      · exact ruF_in f (p + 1) j (by omega) h2
    · intro h1 h2
      omega
theorem ru_in {P : Int32 → Bool} {t : Nat → Int32} {n p j : Nat} (h1 : p ≤ j) (h2 : j < ru P t n p) : P (t j) = true := ruF_in _ _ _ h1 h2
theorem ru_ru {P : Int32 → Bool} {t : Nat → Int32} {n p : Nat} (h : p ≤ n) : ru P t n (ru P t n p) = ru P t n p := by
  by_cases c : ru P t n p < n
  · exact ru_no (ru_stop c)
  · exact ru_end (by omega)
theorem ru_cg {P : Int32 → Bool} {t u : Nat → Int32} {n : Nat} (h : ∀ i, i < n → t i = u i) : ∀ p, ru P t n p = ru P u n p := by
  have key : ∀ f p, p + f ≤ n → ruF P t f p = ruF P u f p := by
    intro f
    induction f with
    | zero => intro p _; rfl
    | succ f ih =>
      intro p hp
      unfold ruF
      rw [h p (by omega), ih (p + 1) (by omega)]
  intro p
  unfold ru
  by_cases c : p ≤ n
  · exact key _ _ (by omega)
  · rw [show n - p = 0 by omega]; rfl
/-- a number's value after j digits -/
def nuF (t : Nat → Int32) (q : Nat) : Nat → Int32
  | 0 => 0
  | j + 1 => if j < 5 then nuF t q j * 10 + t (q + j) - 48 else -1
def wdL : List (List Int32) := [[114, 117, 110, 110, 101, 114], [119, 97, 114, 101], [115, 112, 101, 101, 100], [112, 117, 114, 115, 101], [102, 97, 114], [119, 111, 114, 116, 104], [114, 105, 118, 97, 108, 115], [116, 105, 109, 101], [108, 101, 97, 100], [119, 101, 97, 108, 116, 104], [102, 101, 97, 115, 116], [100, 97, 121], [104, 105, 108, 108], [114, 117, 110], [105, 102], [97, 110, 100], [111, 114], [110, 111, 116]]
def wd (k : Nat) : List Int32 := wdL.getD k []
abbrev eqW (t : Nat → Int32) (q e k : Nat) : Prop := q + (wd k).length = e ∧ ∀ j, j < (wd k).length → t (q + j) = (wd k).getD j 0
def wvF (t : Nat → Int32) (q e : Nat) : Nat → Int32
  | 0 => -1
  | k + 1 => if eqW t q e k then nI k else wvF t q e k
theorem list_ext0 {a b : List Int32} (hl : a.length = b.length) (h : ∀ j, j < a.length → a.getD j 0 = b.getD j 0) : a = b := by
  refine List.ext_getElem hl (fun i h1 h2 => ?_)
  have := h i h1
  simpa [List.getD, List.getElem?_eq_getElem h1, List.getElem?_eq_getElem h2] using this
theorem eqW_inj {t : Nat → Int32} {q e k k' : Nat} (hk : k < 18) (hk' : k' < 18) (h : eqW t q e k) (h' : eqW t q e k') : k = k' := by
  have hl : (wd k).length = (wd k').length := by have := h.1; have := h'.1; omega
  have he : wd k = wd k' := list_ext0 hl (fun j hj => by rw [← h.2 j hj, ← h'.2 j (by omega)])
  have key : ∀ a, a < 18 → ∀ b, b < 18 → wd a = wd b → a = b := by decide
  exact key k hk k' hk' he
theorem wvF_is {t : Nat → Int32} {q e k : Nat} : ∀ m, m ≤ 18 → k < m → eqW t q e k → wvF t q e m = nI k
  | 0, _, hk, _ => absurd hk (Nat.not_lt_zero k)
  | m + 1, hm, hk, h => by
    unfold wvF
    by_cases c : eqW t q e m
    · rw [if_pos c, eqW_inj (by omega) (by omega) h c]
    · rw [if_neg c]
      have : k ≠ m := fun z => c (z ▸ h)
      exact wvF_is m (by omega) (by omega) h
theorem wvF_no {t : Nat → Int32} {q e : Nat} : ∀ m, (∀ k, k < m → ¬ eqW t q e k) → wvF t q e m = -1
  | 0, _ => rfl
  | m + 1, h => by
    unfold wvF
    rw [if_neg (h m (by omega))]
    exact wvF_no m (fun k hk => h k (by omega))
/-- the word's number is k just where it is the k-th word -/
theorem wv_iff {t : Nat → Int32} {q e k : Nat} (hk : k < 18) : (wvF t q e 18 = nI k) = eqW t q e k := by
  apply propext
  constructor
  · intro h
    by_cases c : ∃ j, j < 18 ∧ eqW t q e j
    · obtain ⟨j, hj, c⟩ := c
      rw [wvF_is 18 (Nat.le_refl _) hj c, nI_eq_iff (by omega) (by omega)] at h
      exact h ▸ c
    · rw [wvF_no 18 (fun j hj z => c ⟨j, hj, z⟩)] at h
      have key : ∀ a, a < 18 → ¬ (-1 : Int32) = nI a := by decide
      exact absurd h (key k hk)
  · exact fun h => wvF_is 18 (Nat.le_refl _) hk h
/-- < or >, with = behind it -/
abbrev isQ2 (t : Nat → Int32) (n q : Nat) : Prop := (t q &&& 255 = 60 ∨ t q &&& 255 = 62) ∧ q + 1 < n ∧ t (q + 1) = 61
def tkK (t : Nat → Int32) (n q : Nat) : Nat := if n ≤ q then 0 else if isDg (t q) = true then 1 else if isLt (t q) = true then 2 else 3
def tkE (t : Nat → Int32) (n q : Nat) : Nat := if n ≤ q then q else if isDg (t q) = true then ru isDg t n q else if isLt (t q) = true then ru isLt t n q else if isQ2 t n q then q + 2 else q + 1
def tkV (t : Nat → Int32) (n q : Nat) : Int32 := if isDg (t q) = true then nuF t q (tkE t n q - q) else if isLt (t q) = true then wvF t q (tkE t n q) 18 else if isQ2 t n q then (t q &&& 255) + 256 else t q &&& 255
theorem tkE_gt {t : Nat → Int32} {n q : Nat} (h : q < n) : q < tkE t n q ∧ tkE t n q ≤ n := by
  unfold tkE
  rw [if_neg (by omega)]
  by_cases c1 : isDg (t q) = true
  · rw [if_pos c1, ru_go h c1]
    exact ⟨ru_ge, ru_le (by omega)⟩
  rw [if_neg c1]
  by_cases c2 : isLt (t q) = true
  · rw [if_pos c2, ru_go h c2]
    exact ⟨ru_ge, ru_le (by omega)⟩
  rw [if_neg c2]
  by_cases c3 : isQ2 t n q
  · rw [if_pos c3]
    have := c3.2.1
    omega
  · rw [if_neg c3]
    omega
theorem tkE_le {t : Nat → Int32} {n q : Nat} (h : q ≤ n) : q ≤ tkE t n q ∧ tkE t n q ≤ n := by
  by_cases c : q < n
  · have := tkE_gt (t := t) c
    omega
  · unfold tkE
    rw [if_pos (by omega)]
    omega
/-! the class's text -/
def TxS (h : AH) (b n : Nat) (t : Nat → Int32) : Prop := hS h b = (18, 7) ∧ hR h b 0 = b + 1 ∧ hS h (b + 1) = (2, 400) ∧ hI h b 1 = nI n ∧ n ≤ 400 ∧ ∀ i, i < n → hI h (b + 1) i = t i
def TxAt (h : AH) (b : Nat) (t : Nat → Int32) (n q : Nat) : Prop := hI h b 3 = nI q ∧ hI h b 4 = nI (tkK t n q) ∧ (q < n → hI h b 5 = tkV t n q) ∧ hI h b 6 = nI (tkE t n q)
theorem TxS.fr {h h' : AH} {b n : Nat} {t : Nat → Int32} {S : Nat → Prop} (H : TxS h b n t) (f : Fr' h h' S) (h1 : hI h' b 1 = hI h b 1) (h2 : ¬ S (b + 1)) : TxS h' b n t := by
  obtain ⟨a1, a2, a3, a4, a5, a6⟩ := H
  exact ⟨by rw [f.1]; exact a1, by rw [f.2.1]; exact a2, by rw [f.1]; exact a3, by rw [h1]; exact a4, a5, fun i hi => by rw [f.2.2.2.2.1 _ h2]; exact a6 i hi⟩
theorem sp_isDigit {d : Nat} {h : AH} {Q : Option Value → AH → Prop} (hd : 5 ≤ d) (c : Int32) (k : Q (some (.int (bI (isDg c = true)))) h) : Calls d nX8_isDigit [.int c] h (hN h) (hU h) Q := by
  obtain ⟨e, rfl⟩ : ∃ e, d = e + 1 := ⟨d - 1, by omega⟩
  refine wX8_isDigit (by omega) c ?_
  simp only [rt_i, rt_b0, rt_b1, rt_v, rt_l, rt_o, rt_a, rV_none, rI_some, rL_some, rR_some, rT_some, rt_bI, hIf_sL, hIf_sR, hS_sI, hS_sL, hS_sR, hS_cpI, hR_sI, hR_sL, hR_cpI, hL_sI, hL_sR, hL_cpI, hI_sL, hI_sR, hN_sI, hN_sL, hN_sR, hN_cpI, hU_sI, hU_sL, hU_sR, hU_cpI, tn0, tn1, tn2, tn3, tn4, tn5, tn6, tn7, tn8, tn9, tn10, tn11, tn12, tn13, tn14, tn15, tn16, tn17, tn18, tn19, tn20, tn21, tn22, tn23, tn24, tn25, tn26, tn27, tn28, tn29, tn30, tn31, tn32, tn33, tn34, tn35, tn36, tn37, tn38, tn39, tn40, tn41, tn42, tn43, tn44, tn45, tn46, tn47, tn48, tn49, tn50, tn51, tn52, tn53, tn54, tn55, tn56, tn57, tn58, tn59, tn60, lH_eq, true_and, and_true]
  have iff : (isDg c = true) ↔ (48 ≤ c ∧ c ≤ 57) := decide_eq_true_iff
  refine ⟨fun z => ?_, fun z => ⟨fun y => ?_, fun y => ?_⟩⟩
  · rwa [bI_f (fun c => absurd z (Int32.not_lt.mpr (iff.mp c).1))] at k
  · rwa [bI_f (fun c => absurd y (Int32.not_lt.mpr (iff.mp c).2))] at k
  · rwa [bI_t (iff.mpr ⟨Int32.not_lt.mp z, Int32.not_lt.mp y⟩)] at k
theorem sp_isLetter {d : Nat} {h : AH} {Q : Option Value → AH → Prop} (hd : 5 ≤ d) (c : Int32) (k : Q (some (.int (bI (isLt c = true)))) h) : Calls d nX8_isLetter [.int c] h (hN h) (hU h) Q := by
  obtain ⟨e, rfl⟩ : ∃ e, d = e + 1 := ⟨d - 1, by omega⟩
  refine wX8_isLetter (by omega) c ?_
  simp only [rt_i, rt_b0, rt_b1, rt_v, rt_l, rt_o, rt_a, rV_none, rI_some, rL_some, rR_some, rT_some, rt_bI, hIf_sL, hIf_sR, hS_sI, hS_sL, hS_sR, hS_cpI, hR_sI, hR_sL, hR_cpI, hL_sI, hL_sR, hL_cpI, hI_sL, hI_sR, hN_sI, hN_sL, hN_sR, hN_cpI, hU_sI, hU_sL, hU_sR, hU_cpI, tn0, tn1, tn2, tn3, tn4, tn5, tn6, tn7, tn8, tn9, tn10, tn11, tn12, tn13, tn14, tn15, tn16, tn17, tn18, tn19, tn20, tn21, tn22, tn23, tn24, tn25, tn26, tn27, tn28, tn29, tn30, tn31, tn32, tn33, tn34, tn35, tn36, tn37, tn38, tn39, tn40, tn41, tn42, tn43, tn44, tn45, tn46, tn47, tn48, tn49, tn50, tn51, tn52, tn53, tn54, tn55, tn56, tn57, tn58, tn59, tn60, lH_eq, true_and, and_true]
  have iff : (isLt c = true) ↔ (97 ≤ c ∧ c ≤ 122) := decide_eq_true_iff
  refine ⟨fun z => ?_, fun z => ⟨fun y => ?_, fun y => ?_⟩⟩
  · rwa [bI_f (fun c => absurd z (Int32.not_lt.mpr (iff.mp c).1))] at k
  · rwa [bI_f (fun c => absurd y (Int32.not_lt.mpr (iff.mp c).2))] at k
  · rwa [bI_t (iff.mpr ⟨Int32.not_lt.mp z, Int32.not_lt.mp y⟩)] at k
theorem tn_loop {d E1 E2 : Nat} {Q : Option Value → AH → Prop} (hd : 5 ≤ d) (b n q : Nat) (t : Nat → Int32) : ∀ (m p : Nat) (h : AH), p + m = n → q ≤ p → TxS h b n t → hI h b 3 = nI q → hI h b 6 = nI p → hI h b 5 = nuF t q (p - q) → hN h = E1 → hU h = E2 → (∀ h', Fr' h h' (fun c => c = b) → (∀ j, j ≠ 5 → j ≠ 6 → hI h' b j = hI h b j) → hI h' b 6 = nI (ru isDg t n p) → hI h' b 5 = nuF t q (ru isDg t n p - q) → Q none h') → Reach d nX8_takeNumber (10, [.ref b], []) h E1 E2 Q
  | 0, p, h, hp, hq, H, e3, e6, e5, n1, n2, k => by
    obtain ⟨a1, a2, a3, a4, a5, a6⟩ := H
    refine wX8_takeNumber_10 (by omega) b ?_
    simp only [rt_i, rt_b0, rt_b1, rt_v, rt_l, rt_o, rt_a, rV_none, rI_some, rL_some, rR_some, rT_some, rt_bI, hIf_sL, hIf_sR, hS_sI, hS_sL, hS_sR, hS_cpI, hR_sI, hR_sL, hR_cpI, hL_sI, hL_sR, hL_cpI, hI_sL, hI_sR, hN_sI, hN_sL, hN_sR, hN_cpI, hU_sI, hU_sL, hU_sR, hU_cpI, tn0, tn1, tn2, tn3, tn4, tn5, tn6, tn7, tn8, tn9, tn10, tn11, tn12, tn13, tn14, tn15, tn16, tn17, tn18, tn19, tn20, tn21, tn22, tn23, tn24, tn25, tn26, tn27, tn28, tn29, tn30, tn31, tn32, tn33, tn34, tn35, tn36, tn37, tn38, tn39, tn40, tn41, tn42, tn43, tn44, tn45, tn46, tn47, tn48, tn49, tn50, tn51, tn52, tn53, tn54, tn55, tn56, tn57, tn58, tn59, tn60, lH_eq, true_and, and_true, a1, a4, e6, nI_le_iff (show n < 2 ^ 31 by omega) (show p < 2 ^ 31 by omega)]
    have er : ru isDg t n p = p := ru_end (by omega)
    rw [er] at k
    exact ⟨fun _ => ⟨n1, n2, k h (Fr'.refl _ _) (fun _ _ _ => rfl) e6 e5⟩, fun z => absurd (by omega) z⟩
  | m + 1, p, h, hp, hq, H, e3, e6, e5, n1, n2, k => by
    have H0 := H
    obtain ⟨a1, a2, a3, a4, a5, a6⟩ := H
    refine wX8_takeNumber_10 (by omega) b ?_
    simp only [rt_i, rt_b0, rt_b1, rt_v, rt_l, rt_o, rt_a, rV_none, rI_some, rL_some, rR_some, rT_some, rt_bI, hIf_sL, hIf_sR, hS_sI, hS_sL, hS_sR, hS_cpI, hR_sI, hR_sL, hR_cpI, hL_sI, hL_sR, hL_cpI, hI_sL, hI_sR, hN_sI, hN_sL, hN_sR, hN_cpI, hU_sI, hU_sL, hU_sR, hU_cpI, tn0, tn1, tn2, tn3, tn4, tn5, tn6, tn7, tn8, tn9, tn10, tn11, tn12, tn13, tn14, tn15, tn16, tn17, tn18, tn19, tn20, tn21, tn22, tn23, tn24, tn25, tn26, tn27, tn28, tn29, tn30, tn31, tn32, tn33, tn34, tn35, tn36, tn37, tn38, tn39, tn40, tn41, tn42, tn43, tn44, tn45, tn46, tn47, tn48, tn49, tn50, tn51, tn52, tn53, tn54, tn55, tn56, tn57, tn58, tn59, tn60, lH_eq, true_and, and_true, a1, a2, a3, a4, e3, e6, vp_in_nI (show p < 400 by omega) (show 400 < 2 ^ 31 by omega), nI_clamp (show p < 2 ^ 31 by omega), nI_le_iff (show n < 2 ^ 31 by omega) (show p < 2 ^ 31 by omega), a6 p (by omega), true_or]
    refine ⟨fun z => absurd z (by omega), fun _ => ?_⟩
    refine sp_isDigit (by omega) (t p) ?_
    simp only [rI_some, bI0, a1, a2, a3, e3, e6, e5, vp_in_nI (show p < 400 by omega) (show 400 < 2 ^ 31 by omega), nI_clamp (show p < 2 ^ 31 by omega), true_or, true_and, hI_sI, if_true, Nat.reduceEqDiff, if_false, nI_1, a6 p (by omega), rt_i, rt_b0, rt_b1, rt_v, rt_l, rt_o, rt_a, rV_none, rI_some, rL_some, rR_some, rT_some, rt_bI, hIf_sL, hIf_sR, hS_sI, hS_sL, hS_sR, hS_cpI, hR_sI, hR_sL, hR_cpI, hL_sI, hL_sR, hL_cpI, hI_sL, hI_sR, hN_sI, hN_sL, hN_sR, hN_cpI, hU_sI, hU_sL, hU_sR, hU_cpI, tn0, tn1, tn2, tn3, tn4, tn5, tn6, tn7, tn8, tn9, tn10, tn11, tn12, tn13, tn14, tn15, tn16, tn17, tn18, tn19, tn20, tn21, tn22, tn23, tn24, tn25, tn26, tn27, tn28, tn29, tn30, tn31, tn32, tn33, tn34, tn35, tn36, tn37, tn38, tn39, tn40, tn41, tn42, tn43, tn44, tn45, tn46, tn47, tn48, tn49, tn50, tn51, tn52, tn53, tn54, tn55, tn56, tn57, tn58, tn59, tn60, lH_eq, true_and, and_true]
    refine ⟨fun z => ?_, fun z => ?_⟩
    · have er : ru isDg t n p = p := ru_no z
      rw [er] at k
      exact ⟨n1, n2, k h (Fr'.refl _ _) (fun _ _ _ => rfl) e6 e5⟩
    · have z := Decidable.not_not.mp z
      have er : ru isDg t n p = ru isDg t n (p + 1) := ru_go (by omega) z
      rw [er] at k
      have es : nI p - nI q = nI (p - q) := pk_sub (by omega)
      have e5' : p + 1 - q = (p - q) + 1 := by omega
      rw [es, show ((5 : Int32) ≤ nI (p - q)) = (5 ≤ p - q) from nI_le_iff (a := 5) (by decide) (by omega)]
      have go : ∀ v, v = nuF t q (p + 1 - q) → Reach d nX8_takeNumber (10, [.ref b], []) (sI (sI h b 5 v) b 6 (nI (p + 1))) E1 E2 Q := fun v hv => by
        have f : Fr' h (sI (sI h b 5 v) b 6 (nI (p + 1))) (fun c => c = b) := (Fr'.sI (S := fun c => c = b) rfl).trans (Fr'.sI rfl)
        have g : ∀ j, j ≠ 5 → j ≠ 6 → hI (sI (sI h b 5 v) b 6 (nI (p + 1))) b j = hI h b j := fun j h5 h6 => by rw [hI_sI, if_pos rfl, if_neg h6, hI_sI, if_pos rfl, if_neg h5]
        refine tn_loop hd b n q t m (p + 1) _ (by omega) (by omega) (H0.fr f (g 1 (by decide) (by decide)) (by omega)) ((g 3 (by decide) (by decide)).trans e3) (by rw [hI_sI, if_pos rfl, if_pos rfl]) (by rw [hI_sI, if_pos rfl, if_neg (by decide), hI_sI, if_pos rfl, if_pos rfl]; exact hv) n1 n2 (fun h' f' g' q6 q5 => k h' (f.trans f') (fun j h5 h6 => (g' j h5 h6).trans (g j h5 h6)) q6 q5)
      refine ⟨fun y => go (-1) ?_, fun y => go _ ?_⟩
      · rw [e5']
        exact (if_neg (by omega)).symm
      · rw [e5']
        have eS : nuF t q (p - q + 1) = nuF t q (p - q) * 10 + t (q + (p - q)) - 48 := if_pos (by omega)
        rw [eS, show q + (p - q) = p by omega]
theorem sp_takeNumber {d : Nat} {h : AH} {Q : Option Value → AH → Prop} (hd : 6 ≤ d) (b n q : Nat) (t : Nat → Int32) (H : TxS h b n t) (hq : q < n) (hg : isDg (t q) = true) (e3 : hI h b 3 = nI q) (e6 : hI h b 6 = nI q) (k : ∀ h', Fr' h h' (fun c => c = b) → hI h' b 1 = hI h b 1 → hI h' b 2 = hI h b 2 → TxAt h' b t n q → Q none h') : Calls d nX8_takeNumber [.ref b] h (hN h) (hU h) Q := by
  obtain ⟨e, rfl⟩ : ∃ e, d = e + 1 := ⟨d - 1, by omega⟩
  refine wX8_takeNumber (by omega) b ?_
  simp only [rt_i, rt_b0, rt_b1, rt_v, rt_l, rt_o, rt_a, rV_none, rI_some, rL_some, rR_some, rT_some, rt_bI, hIf_sL, hIf_sR, hS_sI, hS_sL, hS_sR, hS_cpI, hR_sI, hR_sL, hR_cpI, hL_sI, hL_sR, hL_cpI, hI_sL, hI_sR, hN_sI, hN_sL, hN_sR, hN_cpI, hU_sI, hU_sL, hU_sR, hU_cpI, tn0, tn1, tn2, tn3, tn4, tn5, tn6, tn7, tn8, tn9, tn10, tn11, tn12, tn13, tn14, tn15, tn16, tn17, tn18, tn19, tn20, tn21, tn22, tn23, tn24, tn25, tn26, tn27, tn28, tn29, tn30, tn31, tn32, tn33, tn34, tn35, tn36, tn37, tn38, tn39, tn40, tn41, tn42, tn43, tn44, tn45, tn46, tn47, tn48, tn49, tn50, tn51, tn52, tn53, tn54, tn55, tn56, tn57, tn58, tn59, tn60, lH_eq, true_and, and_true, H.1]
  have f : Fr' h (sI (sI h b 4 1) b 5 0) (fun c => c = b) := (Fr'.sI (S := fun c => c = b) rfl).trans (Fr'.sI rfl)
  have g : ∀ j, j ≠ 4 → j ≠ 5 → hI (sI (sI h b 4 1) b 5 0) b j = hI h b j := fun j h4 h5 => by rw [hI_sI, if_pos rfl, if_neg h5, hI_sI, if_pos rfl, if_neg h4]
  refine tn_loop (by omega) b n q t (n - q) q _ (by omega) (Nat.le_refl _) (H.fr f (g 1 (by decide) (by decide)) (by omega)) ((g 3 (by decide) (by decide)).trans e3) ((g 6 (by decide) (by decide)).trans e6) (by rw [hI_sI, if_pos rfl, if_pos rfl, Nat.sub_self]; rfl) rfl rfl (fun h' f' g' q6 q5 => k h' (f.trans f') ?_ ?_ ?_)
  · rw [g' 1 (by decide) (by decide)]; exact g 1 (by decide) (by decide)
  · rw [g' 2 (by decide) (by decide)]; exact g 2 (by decide) (by decide)
  · have eE : tkE t n q = ru isDg t n q := by unfold tkE; rw [if_neg (by omega), if_pos hg]
    refine ⟨?_, ?_, fun _ => ?_, ?_⟩
    · rw [g' 3 (by decide) (by decide), g 3 (by decide) (by decide)]; exact e3
    · rw [g' 4 (by decide) (by decide), hI_sI, if_pos rfl, if_neg (by decide), hI_sI, if_pos rfl, if_pos rfl]
      unfold tkK
      rw [if_neg (by omega), if_pos hg]; rfl
    · rw [q5]; unfold tkV; rw [if_pos hg, eE]
    · rw [q6, eE]
