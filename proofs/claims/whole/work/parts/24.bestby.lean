/-! the ware that a rule likes best -/
def thB (ev : Nat → Int32) (day : Int32) (w : Nat) : Bool := decide (0 < ev w ∧ irm day (ev w) = 0)
theorem thB_t (ev : Nat → Int32) (day : Int32) (w : Nat) : (thB ev day w = true) = (0 < ev w ∧ irm day (ev w) = 0) := by simp [thB]
def bbF (th : Nat → Bool) (lk : Nat → Int64) : Nat → Option Nat × Int64
  | 0 => (none, 0)
  | n + 1 => if th n = true ∧ (bbF th lk n).2 < lk n then (some n, lk n) else bbF th lk n
theorem bbF_lt (th : Nat → Bool) (lk : Nat → Int64) : ∀ (n b : Nat), (bbF th lk n).1 = some b → b < n
  | 0, b, h => by cases h
  | n + 1, b, h => by
    have := bbF_lt th lk n b
    grind [bbF]
theorem RulAt.fr {h h' : AH} {r : Nat} {cls : List (List (Nat × Nat) × List (Nat × Nat))} {S : Nat → Prop} (H : RulAt h r cls) (f : Fr' h h' S) (h0 : ¬ S r) (h1 : ¬ S (r + 1)) (h2 : ¬ S (r + 2)) : RulAt h' r cls := by
  obtain ⟨n1, q⟩ := H
  refine ⟨n1, ?_⟩
  simp only [f.1, f.2.1, f.2.2.2.2.1 r h0, show hI h' (r + 1) = hI h (r + 1) from funext (f.2.2.2.2.1 (r + 1) h1), show hI h' (r + 2) = hI h (r + 2) from funext (f.2.2.2.2.1 (r + 2) h2)]
  exact q
theorem bb_loop {d E1 E2 : Nat} {Q : Option Value → AH → Prop} {h0 : AH} (hd : 8 ≤ d) (c ru a m r nw : Nat) (cls : List (List (Nat × Nat) × List (Nat × Nat))) (wd : Nat → Nat → Int64) (HC : CouAt h0 c) (H : HillAt h0 a) (HM : MomAt h0 m) (HR : RulAt h0 ru cls) (hr : r < 5) (hn2 : hI h0 a 2 = nI nw) (hw6 : nw ≤ 6) (dca : c + 5 ≤ a ∨ a + 6 ≤ c) (dcm : c + 5 ≤ m ∨ m + 6 ≤ c) (dcr : c + 5 ≤ ru ∨ ru + 3 ≤ c) (w1 : ∀ w, w < nw → wd w 1 = (nI w).toInt64 ∧ wd w 4 = (hI h0 (m + 4) w).toInt64 ∧ wd w 5 = (hI h0 (a + 4) w).toInt64 ∧ wd w 6 = (nI (rvF (hI h0 (c + 2)) w r)).toInt64 ∧ wd w 7 = (if 0 < hI h0 (m + 1) r then hI h0 (m + 4) w / hI h0 (m + 1) r else 0).toInt64) (w2 : ∀ w j, w < nw → j < 12 → j ≠ 1 → j ≠ 4 → j ≠ 5 → j ≠ 6 → j ≠ 7 → hL h0 (c + 3) j = wd w j) (e1 : hN h0 = E1) (e2 : hU h0 = E2) (k : ∀ h', Fr' h0 h' (fun b => b = c + 3 ∨ b = c + 4) → Q (some (.int (oI (bbF (thB (hI h0 (a + 5)) (hI h0 m 0)) (fun w => sumF (wd w) cls) nw).1))) h') : ∀ (n i : Nat) (h : AH), i + n = nw → Fr' h0 h (fun b => b = c + 3 ∨ b = c + 4) → (∀ j, j ≠ 1 → j ≠ 4 → j ≠ 5 → j ≠ 6 → j ≠ 7 → hL h (c + 3) j = hL h0 (c + 3) j) → Reach d nX1_bestBy (17, [.ref c, .ref ru, .ref a, .ref m, .int (nI r), .int (oI (bbF (thB (hI h0 (a + 5)) (hI h0 m 0)) (fun w => sumF (wd w) cls) i).1), .long (bbF (thB (hI h0 (a + 5)) (hI h0 m 0)) (fun w => sumF (wd w) cls) i).2, .float 0, .int (nI i), .float 0, .float 0], []) h E1 E2 Q
  | 0, i, h, hi, f, fw => by
    have : i = nw := by omega
    subst this
    refine wX1_bestBy_17 (by omega) c ru a m (nI r) _ _ (nI i) ?_
    simp only [f.1, f.2.1, hiq_0 H, hiq_1 H, hiq_2 H, hiq_3 H, hiq_4 H, hiq_5 H, hiq_6 H, hiq_7 H, hiq_8 H, hiq_9 H, hiq_10 H, f.2.2.2.2.1 a (by omega), hn2, true_and, nI_le_iff (show i < 2 ^ 31 by omega) (show i < 2 ^ 31 by omega), rt_i]
    exact ⟨fun _ => ⟨f.2.2.1.trans e1, f.2.2.2.1.trans e2, k h f⟩, fun z => absurd (Nat.le_refl i) z⟩
  | n + 1, i, h, hi, f, fw => by
    refine wX1_bestBy_17 (by omega) c ru a m (nI r) _ _ (nI i) ?_
    simp only [f.1, f.2.1, hiq_0 H, hiq_1 H, hiq_2 H, hiq_3 H, hiq_4 H, hiq_5 H, hiq_6 H, hiq_7 H, hiq_8 H, hiq_9 H, hiq_10 H, moq_0 HM, moq_1 HM, moq_2 HM, moq_3 HM, moq_4 HM, moq_5 HM, moq_6 HM, moq_7 HM, moq_8 HM, moq_9 HM, moq_10 HM, coq_0 HC, coq_1 HC, coq_2 HC, coq_3 HC, coq_4 HC, coq_5 HC, coq_6 HC, coq_7 HC, coq_8 HC, f.2.2.2.2.1 a (by omega), f.2.2.2.2.1 m (by omega), hn2, true_and, nI_le_iff (show nw < 2 ^ 31 by omega) (show i < 2 ^ 31 by omega), rt_i]
    refine ⟨fun z => absurd z (by omega), fun _ => ?_⟩
    have hs : bbF (thB (hI h0 (a + 5)) (hI h0 m 0)) (fun w => sumF (wd w) cls) (i + 1) = if thB (hI h0 (a + 5)) (hI h0 m 0) i = true ∧ (bbF (thB (hI h0 (a + 5)) (hI h0 m 0)) (fun w => sumF (wd w) cls) i).2 < sumF (wd i) cls then (some i, sumF (wd i) cls) else bbF (thB (hI h0 (a + 5)) (hI h0 m 0)) (fun w => sumF (wd w) cls) i := rfl
    refine sp_isThere (by omega) a i _ (H.fr f) (by omega) ?_
    simp only [rI_some, bI0, f.2.2.2.2.1 (a + 5) (by omega), f.1, coq_0 HC, coq_1 HC, coq_2 HC, coq_3 HC, coq_4 HC, coq_5 HC, coq_6 HC, coq_7 HC, coq_8 HC, true_and]
    have go := fun h1 f1 w => bb_loop hd c ru a m r nw cls wd HC H HM HR hr hn2 hw6 dca dcm dcr w1 w2 e1 e2 k n (i + 1) h1 (by omega) f1 w
    rw [hs] at go
    rw [nI_1]
    refine ⟨fun z => ?_, fun z => ?_⟩
    · rw [if_neg (fun y => z ((thB_t _ _ _).mp y.1))] at go
      exact go h f fw
    · refine sp_tellWare (by omega) c a m r i (HC.fr f) (H.fr f) (HM.fr f) hr (by omega) (fun h1 f1 q1 q2 q3 q4 q5 q6 => ?_)
      have f2 : Fr' h0 h1 (fun b => b = c + 3 ∨ b = c + 4) := f.trans (f1.mono (fun b z => Or.inl z))
      have HR1 := HR.fr f2 (by omega) (by omega) (by omega)
      have hR : hS h0 ru = (16, 3) := by obtain ⟨n1, q⟩ := HR; exact q.2.2.2.1
      simp only [rV_none, f2.1, f2.2.1, coq_0 HC, coq_1 HC, coq_2 HC, coq_3 HC, coq_4 HC, coq_5 HC, coq_6 HC, coq_7 HC, coq_8 HC, true_and, hR]
      rw [f.2.2.2.2.1 (m + 4) (by omega)] at q2 q5
      rw [f.2.2.2.2.1 (a + 4) (by omega)] at q3
      rw [f.2.2.2.2.1 (m + 1) (by omega)] at q5
      rw [show hI h (c + 2) = hI h0 (c + 2) from funext (f.2.2.2.2.1 (c + 2) (by omega))] at q4
      have w1' := w1 i (by omega)
      refine sp_sumBy (by omega) ru (c + 3) (c + 4) cls (wd i) (by omega) HR1 (by rw [f2.1]; exact coq_7 HC) (by rw [f2.1]; exact coq_8 HC) (fun j hj => ?_) (fun h3 f3 => ?_)
      · have w2' := w2 i j (by omega) hj
        have fw' := fw j
        have q6' := q6 j
        grind
      · have f4 : Fr' h0 h3 (fun b => b = c + 3 ∨ b = c + 4) := f2.trans (f3.mono (fun b z => Or.inr z))
        have fw3 : ∀ j, j ≠ 1 → j ≠ 4 → j ≠ 5 → j ≠ 6 → j ≠ 7 → hL h3 (c + 3) j = hL h0 (c + 3) j := fun j z1 z4 z5 z6 z7 => by
          rw [f3.2.2.2.2.2 (c + 3) (by omega), q6 j z1 z4 z5 z6 z7, fw j z1 z4 z5 z6 z7]
        simp only [rL_some, lgle]
        have go3 := go h3 f4 fw3
        refine ⟨fun y => ?_, fun y => ?_⟩
        · rw [if_neg (fun x => absurd x.2 (Int64.not_lt.mpr y))] at go3
          exact go3
        · rw [if_pos ⟨(thB_t _ _ _).mpr (Decidable.not_not.mp z), Int64.not_le.mp y⟩] at go3
          exact go3
/-- the words' values -/
def wdF (sp pu we fa wo : Nat → Int32) (fe day : Int32) (nr : Nat) (ai : Nat → Int32) (r w : Nat) : Nat → Int64 := fun k => match k with
  | 0 => (nI r).toInt64
  | 1 => (nI w).toInt64
  | 2 => (sp r).toInt64
  | 3 => (pu r).toInt64
  | 4 => (fa w).toInt64
  | 5 => (wo w).toInt64
  | 6 => (nI (rvF ai w r)).toInt64
  | 7 => (if 0 < sp r then fa w / sp r else 0).toInt64
  | 8 => (if nr < 2 then (0 : Int32) else pu r - ldF pu r nr).toInt64
  | 9 => (we r).toInt64
  | 10 => (if 0 < fe then fe - 1 - irm day fe else 0).toInt64
  | _ => day.toInt64
theorem sp_bestBy {d : Nat} {h : AH} {Q : Option Value → AH → Prop} (hd : 9 ≤ d) (c ru a m r nr nw : Nat) (cls : List (List (Nat × Nat) × List (Nat × Nat))) (HC : CouAt h c) (H : HillAt h a) (HM : MomAt h m) (HR : RulAt h ru cls) (hr : r < nr) (hr5 : nr ≤ 5) (hn : hI h a 1 = nI nr) (hn2 : hI h a 2 = nI nw) (hw6 : nw ≤ 6) (dca : c + 5 ≤ a ∨ a + 6 ≤ c) (dcm : c + 5 ≤ m ∨ m + 6 ≤ c) (dcr : c + 5 ≤ ru ∨ ru + 3 ≤ c) (k : ∀ h', Fr' h h' (fun b => b = c + 3 ∨ b = c + 4) → Q (some (.int (oI (bbF (thB (hI h (a + 5)) (hI h m 0)) (fun w => sumF (wdF (hI h (m + 1)) (hI h (m + 2)) (hI h (m + 3)) (hI h (m + 4)) (hI h (a + 4)) (hI h a 0) (hI h m 0) nr (hI h (c + 2)) r w) cls) nw).1))) h') : Calls d nX1_bestBy [.ref c, .ref ru, .ref a, .ref m, .int (nI r)] h (hN h) (hU h) Q := by
  obtain ⟨e, rfl⟩ : ∃ e, d = e + 1 := ⟨d - 1, by omega⟩
  refine wX1_bestBy (by omega) c ru a m (nI r) ⟨by rw [HC.1], ?_⟩
  refine sp_tellRunner (by omega) c a m r nr HC H HM hr hn hr5 (fun h1 f1 q0 q2 q3 q8 q9 q10 q11 => ?_)
  have f2 : Fr' h h1 (fun b => b = c + 3 ∨ b = c + 4) := f1.mono (fun b z => Or.inl z)
  have g := fun x (hx : ¬ x = c + 3) => funext (f1.2.2.2.2.1 x hx)
  rw [rV_none]
  refine bb_loop (h0 := h1) (by omega) c ru a m r nw cls (fun w => wdF (hI h (m + 1)) (hI h (m + 2)) (hI h (m + 3)) (hI h (m + 4)) (hI h (a + 4)) (hI h a 0) (hI h m 0) nr (hI h (c + 2)) r w) (HC.fr f1) (H.fr f1) (HM.fr f1) (HR.fr f1 (by omega) (by omega) (by omega)) (by omega) (by rw [g a (by omega)]; exact hn2) hw6 dca dcm dcr ?_ ?_ f1.2.2.1 f1.2.2.2.1 ?_ nw 0 h1 (by omega) (Fr'.refl _ _) (fun _ _ _ _ _ _ => rfl)
  · intro w hw
    rw [g (m + 4) (by omega), g (a + 4) (by omega), g (c + 2) (by omega), g (m + 1) (by omega)]
    exact ⟨rfl, rfl, rfl, rfl, rfl⟩
  · intro w j hw hj z1 z4 z5 z6 z7
    have : j = 0 ∨ j = 2 ∨ j = 3 ∨ j = 8 ∨ j = 9 ∨ j = 10 ∨ j = 11 := by omega
    rcases this with rfl | rfl | rfl | rfl | rfl | rfl | rfl
    · exact q0
    · exact q2
    · exact q3
    · exact q8
    · exact q9
    · exact q10
    · exact q11
  · intro h2 fr
    have := k h2 (f2.trans fr)
    rw [g (a + 5) (by omega), g m (by omega)]
    exact this
