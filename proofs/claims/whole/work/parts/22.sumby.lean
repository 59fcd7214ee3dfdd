/-! the sum of a rule's first clause that holds -/
def segAt (st : Nat → Int32) (o : Nat) (ops : List (Nat × Nat)) : Prop := ∀ (j : Nat) (q : Nat × Nat), ops[j]? = some q → opOk q ∧ st (o + j) = cdI q
def clR (c : List (Nat × Nat) × List (Nat × Nat)) : Prop := tys c.1 [] = some [false] ∧ vals c.1 ≤ 60 ∧ (c.2 = [] ∨ (tys c.2 [] = some [true] ∧ vals c.2 ≤ 60))
def clsAt (st bo : Nat → Int32) (n1 : Nat) : Nat → Nat → List (List (Nat × Nat) × List (Nat × Nat)) → Prop
  | _, _, [] => True
  | c, o, q :: r => bo (2 * c) = nI o ∧ bo (2 * c + 1) = nI (o + q.1.length) ∧ bo (2 * c + 2) = nI (o + q.1.length + q.2.length) ∧ o + q.1.length + q.2.length ≤ n1 ∧ segAt st o q.1 ∧ segAt st (o + q.1.length) q.2 ∧ clR q ∧ clsAt st bo n1 (c + 1) (o + q.1.length + q.2.length) r
def sumF (wd : Nat → Int64) : List (List (Nat × Nat) × List (Nat × Nat)) → Int64
  | [] => 0
  | q :: r => if q.2 = [] ∨ ¬ (evs wd q.2 []).headD 0 = 0 then (evs wd q.1 []).headD 0 else sumF wd r
theorem sp_work {d : Nat} {h : AH} {Q : Option Value → AH → Prop} (hd : 6 ≤ d) (r W P n1 o : Nat) (ops : List (Nat × Nat)) (wd : Nat → Int64) (t : Bool) (hWP : W ≠ P) (hn1 : n1 < 2 ^ 31) (ho : o + ops.length ≤ n1) (hseg : segAt (hI h (r + 1)) o ops) (s0 : hS h r = (16, 3)) (r0 : hR h r 0 = r + 1) (s1 : hS h (r + 1) = (1, n1)) (sW : hS h W = (4, 12)) (sP : hS h P = (4, 60)) (hwd : ∀ j, j < 12 → hL h W j = wd j) (hv : vals ops ≤ 60) (hty : tys ops [] = some [t]) (k : ∀ h', Fr' h h' (fun b => b = P) → Q (some (.long ((evs wd ops []).headD 0))) h') : Calls d nX6_work [.ref r, .int (nI o), .int (nI (o + ops.length)), .ref W, .ref P] h (hN h) (hU h) Q := by
  obtain ⟨e, rfl⟩ : ∃ e, d = e + 1 := ⟨d - 1, by omega⟩
  refine wX6_work (by omega) r (nI o) (nI (o + ops.length)) W P ?_
  exact wk_loop (by omega) r W P n1 (o + ops.length) wd t hWP ho hn1 ops o [] [] h rfl hseg s0 r0 s1 sW sP hwd rfl (by simpa using hv) hty (fun j hj => absurd hj (Nat.not_lt_zero j)) rfl rfl (fun h' v f ev => by have := k h' f; rw [ev] at this; exact this)
theorem nI_two (c : Nat) : 2 * nI c = nI (2 * c) := by
  have := pk_mul 2 c
  exact this
theorem sb_loop {d E1 E2 : Nat} {Q : Option Value → AH → Prop} (hd : 6 ≤ d) (r W P n1 nc : Nat) (wd : Nat → Int64) (hWP : W ≠ P) (hn1 : n1 < 2 ^ 31) (hnc : nc ≤ 12) (st bo : Nat → Int32) : ∀ (cls : List (List (Nat × Nat) × List (Nat × Nat))) (c o : Nat) (h : AH), c + cls.length = nc → clsAt st bo n1 c o cls → hS h r = (16, 3) → hR h r 0 = r + 1 → hR h r 1 = r + 2 → hS h (r + 1) = (1, n1) → hS h (r + 2) = (1, 2 * nc + 1) → hI h r 2 = nI nc → (∀ j, hI h (r + 1) j = st j) → (∀ j, hI h (r + 2) j = bo j) → hS h W = (4, 12) → hS h P = (4, 60) → (∀ j, j < 12 → hL h W j = wd j) → hN h = E1 → hU h = E2 → (∀ h', Fr' h h' (fun b => b = P) → Q (some (.long (sumF wd cls))) h') → Reach d nX6_sumBy (2, [.ref r, .ref W, .ref P, .int (nI c), .float 0, .float 0], []) h E1 E2 Q
  | [], c, o, h, hi, hcl, s0, r0, r1, s1, s2, hc2, hst, hbo, sW, sP, hwd, e1, e2, k => by
    simp only [List.length_nil, Nat.add_zero] at hi
    refine wX6_sumBy_2 (by omega) r W P (nI c) ⟨by rw [s0], fun _ => ?_, fun z => absurd (by rw [hc2]; exact nI_le (by omega) (by omega)) z⟩
    rw [rt_l]
    exact ⟨e1, e2, k h (Fr'.refl _ _)⟩
  | q :: rest, c, o, h, hi, hcl, s0, r0, r1, s1, s2, hc2, hst, hbo, sW, sP, hwd, e1, e2, k => by
    simp only [List.length_cons] at hi
    obtain ⟨b0, b1, b2, hle, g1, g2, ⟨t1, t2, t3⟩, hrest⟩ := hcl
    have hP : P ≠ r ∧ P ≠ r + 1 ∧ P ≠ r + 2 := ⟨fun z => (by rw [z, s0] at sP; cases sP), fun z => (by rw [z, s1] at sP; cases sP), fun z => (by rw [z, s2] at sP; cases sP)⟩
    have g1' : segAt (hI h (r + 1)) o q.1 := fun j q hj => by rw [hst]; exact g1 j q hj
    have g2' : segAt (hI h (r + 1)) (o + q.1.length) q.2 := fun j q hj => by rw [hst]; exact g2 j q hj
    refine wX6_sumBy_2 (by omega) r W P (nI c) ⟨by rw [s0], fun z => absurd (by rw [hc2] at z; exact z) (nI_ge (by omega) (by omega)), fun _ => ?_⟩
    have i1 : nI (2 * c) + 1 = nI (2 * c + 1) := nI_1 _
    have i2 : nI (2 * c) + 2 = nI (2 * c + 2) := nI_add (2 * c) 2
    have v0 : vp_in (nI (2 * c)) (2 * nc + 1) := vp_in_nI (by omega) (by omega)
    have v1 : vp_in (nI (2 * c + 1)) (2 * nc + 1) := vp_in_nI (by omega) (by omega)
    have v2 : vp_in (nI (2 * c + 2)) (2 * nc + 1) := vp_in_nI (by omega) (by omega)
    simp only [s0, r1, s2, nI_two, i1, i2, v0, v1, v2, nI_clamp (show 2 * c < 2 ^ 31 by omega), nI_clamp (show 2 * c + 1 < 2 ^ 31 by omega), nI_clamp (show 2 * c + 2 < 2 ^ 31 by omega), hbo, b0, b1, b2, true_and, nI_eq_iff (show o + q.1.length < 2 ^ 31 by omega) (show o + q.1.length + q.2.length < 2 ^ 31 by omega)]
    have hs : sumF wd (q :: rest) = if q.2 = [] ∨ ¬ (evs wd q.2 []).headD 0 = 0 then (evs wd q.1 []).headD 0 else sumF wd rest := rfl
    refine ⟨fun z => ?_, fun z => ?_⟩
    · have hq2 : q.2 = [] := List.eq_nil_of_length_eq_zero (by omega)
      refine sp_work hd r W P n1 o q.1 wd false hWP hn1 (by omega) g1' s0 r0 s1 sW sP hwd t2 t1 (fun h' f => ?_)
      rw [rL_some, rt_l]
      have := k h' f
      rw [hs, if_pos (Or.inl hq2)] at this
      exact ⟨f.2.2.1.trans e1, f.2.2.2.1.trans e2, this⟩
    · have hq2 : ¬ q.2 = [] := fun y => z (by rw [y]; rfl)
      obtain ⟨t3, t4⟩ := t3.resolve_left hq2
      refine sp_work hd r W P n1 (o + q.1.length) q.2 wd true hWP hn1 (by omega) g2' s0 r0 s1 sW sP hwd t4 t3 (fun h' f => ?_)
      rw [rL_some, lg0]
      refine ⟨fun y => ?_, fun y => ?_⟩
      · rw [nI_1]
        refine sb_loop hd r W P n1 nc wd hWP hn1 hnc st bo rest (c + 1) _ h' (by omega) hrest (by rw [f.1]; exact s0) (by rw [f.2.1]; exact r0) (by rw [f.2.1]; exact r1) (by rw [f.1]; exact s1) (by rw [f.1]; exact s2) (by rw [f.2.2.2.2.1 r hP.1.symm]; exact hc2) (fun j => by rw [f.2.2.2.2.1 (r + 1) hP.2.1.symm]; exact hst j) (fun j => by rw [f.2.2.2.2.1 (r + 2) hP.2.2.symm]; exact hbo j) (by rw [f.1]; exact sW) (by rw [f.1]; exact sP) (fun j hj => by rw [f.2.2.2.2.2 W hWP]; exact hwd j hj) (f.2.2.1.trans e1) (f.2.2.2.1.trans e2) (fun h2 f2 => ?_)
        have := k h2 (f.trans f2)
        rw [hs, if_neg (fun w => w.elim hq2 (fun w => w y))] at this
        exact this
      · simp only [f.1, f.2.1, s0, r1, s2, v0, true_and, f.2.2.2.2.1 (r + 2) hP.2.2.symm, hbo, b0]
        refine sp_work hd r W P n1 o q.1 wd false hWP hn1 (by omega) (fun j q hj => by rw [f.2.2.2.2.1 (r + 1) hP.2.1.symm]; exact g1' j q hj) (by rw [f.1]; exact s0) (by rw [f.2.1]; exact r0) (by rw [f.1]; exact s1) (by rw [f.1]; exact sW) (by rw [f.1]; exact sP) (fun j hj => by rw [f.2.2.2.2.2 W hWP]; exact hwd j hj) t2 t1 (fun h2 f2 => ?_)
        rw [rL_some, rt_l]
        have := k h2 (f.trans f2)
        rw [hs, if_pos (Or.inr y)] at this
        exact ⟨f2.2.2.1.trans (f.2.2.1.trans e1), f2.2.2.2.1.trans (f.2.2.2.1.trans e2), this⟩
/-- a rule's cells -/
def RulAt (h : AH) (r : Nat) (cls : List (List (Nat × Nat) × List (Nat × Nat))) : Prop := ∃ n1, n1 < 2 ^ 31 ∧ cls.length ≤ 12 ∧ clsAt (hI h (r + 1)) (hI h (r + 2)) n1 0 0 cls ∧ hS h r = (16, 3) ∧ hR h r 0 = r + 1 ∧ hR h r 1 = r + 2 ∧ hS h (r + 1) = (1, n1) ∧ hS h (r + 2) = (1, 2 * cls.length + 1) ∧ hI h r 2 = nI cls.length
theorem sp_sumBy {d : Nat} {h : AH} {Q : Option Value → AH → Prop} (hd : 7 ≤ d) (r W P : Nat) (cls : List (List (Nat × Nat) × List (Nat × Nat))) (wd : Nat → Int64) (hWP : W ≠ P) (HR : RulAt h r cls) (sW : hS h W = (4, 12)) (sP : hS h P = (4, 60)) (hwd : ∀ j, j < 12 → hL h W j = wd j) (k : ∀ h', Fr' h h' (fun b => b = P) → Q (some (.long (sumF wd cls))) h') : Calls d nX6_sumBy [.ref r, .ref W, .ref P] h (hN h) (hU h) Q := by
  obtain ⟨e, rfl⟩ : ∃ e, d = e + 1 := ⟨d - 1, by omega⟩
  obtain ⟨n1, hn1, hc, hcl, s0, r0, r1, s1, s2, hc2⟩ := HR
  exact wX6_sumBy (by omega) r W P (sb_loop (by omega) r W P n1 cls.length wd hWP hn1 hc _ _ cls 0 0 h (by omega) hcl s0 r0 r1 s1 s2 hc2 (fun _ => rfl) (fun _ => rfl) sW sP hwd rfl rfl k)
