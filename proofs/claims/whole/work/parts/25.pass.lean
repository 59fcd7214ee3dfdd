/-! a day passes: pictures of hill (A) and moment (M): place of the cell behind the object, place in it -/
def lkF (R : Option (List (List (Nat × Nat) × List (Nat × Nat)))) (A M : Nat → Nat → Int32) (nr : Nat) (ai : Nat → Int32) (r w : Nat) : Int64 := match R with
  | none => (A 4 w).toInt64
  | some cls => sumF (wdF (M 1) (M 2) (M 3) (M 4) (A 4) (A 0 0) (M 0 0) nr ai r w) cls
def chF (R : Option (List (List (Nat × Nat) × List (Nat × Nat)))) (A M : Nat → Nat → Int32) (nr nw : Nat) (ai : Nat → Int32) (r : Nat) : Option Nat := (bbF (thB (A 5) (M 0 0)) (lkF R A M nr ai r) nw).1
def amF (R : Option (List (List (Nat × Nat) × List (Nat × Nat)))) (A M : Nat → Nat → Int32) (nr nw : Nat) (od : Nat → Option Int32) : Nat → Nat → Int32
  | 0 => fun _ => 0
  | n + 1 => fun j => if j = n then (match od n with
    | some x => x
    | none => oI (chF R A M nr nw (amF R A M nr nw od n) n)) else amF R A M nr nw od n j
theorem amF_up (R : Option (List (List (Nat × Nat) × List (Nat × Nat)))) (A M : Nat → Nat → Int32) (nr nw : Nat) (od : Nat → Option Int32) (j : Nat) : ∀ n, j < n → amF R A M nr nw od n j = amF R A M nr nw od (j + 1) j
  | 0, h => absurd h (Nat.not_lt_zero j)
  | n + 1, h => by
    by_cases e : j = n
    · rw [e]
    · have := amF_up R A M nr nw od j n (by omega)
      rw [← this]
      simp [amF, e]
def RuIs (h : AH) (ru : Nat) (R : Option (List (List (Nat × Nat) × List (Nat × Nat)))) : Prop := match R with
  | none => ru = 0
  | some cls => ru ≠ 0 ∧ RulAt h ru cls
theorem RuIs.fr {h h' : AH} {r : Nat} {R : Option (List (List (Nat × Nat) × List (Nat × Nat)))} {S : Nat → Prop} (H : RuIs h r R) (f : Fr' h h' S) (hs : r ≠ 0 → ¬ S r ∧ ¬ S (r + 1) ∧ ¬ S (r + 2)) : RuIs h' r R := by
  cases R with
  | none => exact H
  | some cls => exact ⟨H.1, H.2.fr f (hs H.1).1 (hs H.1).2.1 (hs H.1).2.2⟩
theorem mwF_bb (wo ev : Nat → Int32) (day : Int32) : ∀ n, (∀ j, j < n → 0 < wo j) → mwF wo ev day n = (bbF (thB ev day) (fun w => (wo w).toInt64) n).1 ∧ (bbF (thB ev day) (fun w => (wo w).toInt64) n).2 = (match mwF wo ev day n with
    | none => (0 : Int64)
    | some b => (wo b).toInt64)
  | 0, _ => ⟨rfl, rfl⟩
  | n + 1, h => by
    obtain ⟨i1, i2⟩ := mwF_bb wo ev day n (fun j hj => h j (by omega))
    have h0 : (0 : Int64) < (wo n).toInt64 := by
      have := h n (by omega)
      have e : (0 : Int64) = (0 : Int32).toInt64 := rfl
      rw [e, Int32.toInt64_lt]
      exact this
    have e1 : mwF wo ev day (n + 1) = match mwF wo ev day n with
      | none => if 0 < ev n ∧ irm day (ev n) = 0 then some n else none
      | some b => if (0 < ev n ∧ irm day (ev n) = 0) ∧ wo b < wo n then some n else some b := rfl
    have e2 : bbF (thB ev day) (fun w => (wo w).toInt64) (n + 1) = if thB ev day n = true ∧ (bbF (thB ev day) (fun w => (wo w).toInt64) n).2 < (wo n).toInt64 then (some n, (wo n).toInt64) else bbF (thB ev day) (fun w => (wo w).toInt64) n := rfl
    cases hm : mwF wo ev day n with
    | none =>
      rw [hm] at i1 i2 e1
      simp only at i2 e1
      rw [e1, e2, i2]
      grind [thB_t]
    | some b =>
      rw [hm] at i1 i2 e1
      simp only at i2 e1
      have e3 : (wo b).toInt64 < (wo n).toInt64 ↔ wo b < wo n := Int32.toInt64_lt
      rw [e1, e2, i2]
      grind [thB_t]
def odI (f : Int32) (o : Option Int32) : Int32 := match o with
  | none => f
  | some x => x
theorem rvF_cg {ai bi : Nat → Int32} {w : Nat} : ∀ {n : Nat}, (∀ j, j < n → ai j = bi j) → rvF ai w n = rvF bi w n
  | 0, _ => rfl
  | n + 1, h => by
    have := rvF_cg (w := w) (fun j hj => h j (Nat.lt_succ_of_lt hj))
    simp only [rvF, this, h n (Nat.lt_succ_self n)]
theorem wdF_ai {sp pu we fa wo : Nat → Int32} {fe day : Int32} {nr : Nat} {ai bi : Nat → Int32} {r w : Nat} (h : ∀ j, j < r → ai j = bi j) : wdF sp pu we fa wo fe day nr ai r w = wdF sp pu we fa wo fe day nr bi r w := by
  funext k
  unfold wdF
  rw [rvF_cg h]
theorem lkF_ai {R : Option (List (List (Nat × Nat) × List (Nat × Nat)))} {A M : Nat → Nat → Int32} {nr : Nat} {ai bi : Nat → Int32} {r : Nat} (h : ∀ j, j < r → ai j = bi j) : lkF R A M nr ai r = lkF R A M nr bi r := by
  funext w
  unfold lkF
  rw [wdF_ai h]
theorem chF_ai {R : Option (List (List (Nat × Nat) × List (Nat × Nat)))} {A M : Nat → Nat → Int32} {nr nw : Nat} {ai bi : Nat → Int32} {r : Nat} (h : ∀ j, j < r → ai j = bi j) : chF R A M nr nw ai r = chF R A M nr nw bi r := by
  unfold chF
  rw [lkF_ai h]
/-- the pictures that a heap holds -/
def pic (h : AH) (a : Nat) : Nat → Nat → Int32 := fun k j => hI h (a + k) j
theorem pa_aims {d E1 E2 : Nat} {Q : Option Value → AH → Prop} {h0 : AH} (hd : 9 ≤ d) (c ru a m nr nw : Nat) (R : Option (List (List (Nat × Nat) × List (Nat × Nat)))) (od : Nat → Option Int32) (HC : CouAt h0 c) (H : HillAt h0 a) (HM : MomAt h0 m) (HR : RuIs h0 ru R) (hr5 : nr ≤ 5) (hn : hI h0 a 1 = nI nr) (hn2 : hI h0 a 2 = nI nw) (hw6 : nw ≤ 6) (dca : c + 5 ≤ a ∨ a + 6 ≤ c) (dcm : c + 5 ≤ m ∨ m + 6 ≤ c) (dcr : ru ≠ 0 → c + 5 ≤ ru ∨ ru + 3 ≤ c) (hod : ∀ j, j < nr → hI h0 (c + 1) j = odI (-2) (od j) ∧ od j ≠ some (-2)) (hwo : ∀ j, j < nw → 0 < hI h0 (a + 4) j) (k : ∀ h', Fr' h0 h' (fun b => b = c + 2 ∨ b = c + 3 ∨ b = c + 4) → (∀ j, j < nr → hI h' (c + 2) j = amF R (pic h0 a) (pic h0 m) nr nw od nr j) → Reach d nX1_pass (84, [.ref c, .ref a, .ref m, .float 0, .int 0, .int 0], []) h' E1 E2 Q) : ∀ (n i : Nat) (h : AH), i + n = nr → Fr' h0 h (fun b => b = c + 2 ∨ b = c + 3 ∨ b = c + 4) → (∀ j, j < i → hI h (c + 2) j = amF R (pic h0 a) (pic h0 m) nr nw od i j) → Reach d nX1_pass (3, [.ref c, .ref a, .ref m, .ref ru, .int (nI i), .float 0], []) h E1 E2 Q
  | 0, i, h, hi, f, fa => by
    have : i = nr := by omega
    subst this
    refine wX1_pass_3 (by omega) c a m ru (nI i) ?_
    simp only [f.1, f.2.1, hiq_0 H, hiq_1 H, hiq_2 H, hiq_3 H, hiq_4 H, hiq_5 H, hiq_6 H, hiq_7 H, hiq_8 H, hiq_9 H, hiq_10 H, f.2.2.2.2.1 a (by omega), hn, true_and, nI_le_iff (show i < 2 ^ 31 by omega) (show i < 2 ^ 31 by omega)]
    exact ⟨fun _ => k h f fa, fun z => absurd (Nat.le_refl i) z⟩
  | n + 1, i, h, hi, f, fa => by
    refine wX1_pass_3 (by omega) c a m ru (nI i) ?_
    have gI : ∀ x, ¬ (x = c + 2 ∨ x = c + 3 ∨ x = c + 4) → hI h x = hI h0 x := fun x hx => funext (f.2.2.2.2.1 x hx)
    obtain ⟨ho, ho2⟩ := hod i (by omega)
    simp only [f.1, f.2.1, hiq_0 H, hiq_1 H, hiq_2 H, hiq_3 H, hiq_4 H, hiq_5 H, hiq_6 H, hiq_7 H, hiq_8 H, hiq_9 H, hiq_10 H, moq_0 HM, moq_1 HM, moq_2 HM, moq_3 HM, moq_4 HM, moq_5 HM, moq_6 HM, moq_7 HM, moq_8 HM, moq_9 HM, moq_10 HM, coq_0 HC, coq_1 HC, coq_2 HC, coq_3 HC, coq_4 HC, coq_5 HC, coq_6 HC, coq_7 HC, coq_8 HC, f.2.2.2.2.1 a (by omega), f.2.2.2.2.1 m (by omega), f.2.2.2.2.1 (c + 1) (by omega), hn, ho, true_and, vp_in_nI (show i < 5 by omega) (show 5 < 2 ^ 31 by omega), nI_clamp (show i < 2 ^ 31 by omega), nI_le_iff (show nr < 2 ^ 31 by omega) (show i < 2 ^ 31 by omega), lH_eq]
    refine ⟨fun z => absurd z (by omega), fun _ => ⟨fun z => ?_, fun z => ?_⟩⟩
    · have hoi : od i = none := by
        cases ho3 : od i with
        | none => rfl
        | some x => rw [ho3] at z ho2; exact absurd (congrArg some z) ho2
      have go : ∀ h1 : AH, Fr' h h1 (fun b => b = c + 3 ∨ b = c + 4) → Reach d nX1_pass (3, [.ref c, .ref a, .ref m, .ref ru, .int (nI i + 1), .float 0], []) (sI h1 (c + 2) i (oI (chF R (pic h0 a) (pic h0 m) nr nw (amF R (pic h0 a) (pic h0 m) nr nw od i) i))) E1 E2 Q := fun h1 f1 => by
        rw [nI_1]
        refine pa_aims hd c ru a m nr nw R od HC H HM HR hr5 hn hn2 hw6 dca dcm dcr hod hwo k n (i + 1) _ (by omega) ((f.trans (f1.mono (fun b z => Or.inr z))).trans (Fr'.sI (Or.inl rfl))) (fun j hj => ?_)
        rw [hI_sI, if_pos rfl]
        have g1 := f1.2.2.2.2.1 (c + 2) (by omega) j
        by_cases e : j = i
        · simp only [e, if_true, amF, hoi]
        · have := fa j (by omega)
          simp only [e, if_false, amF, g1, this]
      refine ⟨fun z2 => ?_, fun z2 => ?_⟩
      · cases R with
        | none => exact absurd HR z2
        | some cls =>
          have HR2 := HR.2.fr f (by omega) (by omega) (by omega)
          refine sp_bestBy (by omega) c ru a m i nr nw cls (HC.fr f) (H.fr f) (HM.fr f) HR2 (by omega) hr5 (by rw [gI a (by omega)]; exact hn) (by rw [gI a (by omega)]; exact hn2) hw6 dca dcm (dcr z2) (fun h1 f1 => ?_)
          simp only [rI_some, f1.1, f.1, coq_0 HC, coq_1 HC, coq_2 HC, coq_3 HC, coq_4 HC, coq_5 HC, coq_6 HC, coq_7 HC, coq_8 HC, true_and]
          rw [gI a (by omega), gI m (by omega), gI (m + 1) (by omega), gI (m + 2) (by omega), gI (m + 3) (by omega), gI (m + 4) (by omega), gI (a + 4) (by omega), gI (a + 5) (by omega)]
          have hq : (fun w => sumF (wdF (hI h0 (m + 1)) (hI h0 (m + 2)) (hI h0 (m + 3)) (hI h0 (m + 4)) (hI h0 (a + 4)) (hI h0 a 0) (hI h0 m 0) nr (hI h (c + 2)) i w) cls) = lkF (some cls) (pic h0 a) (pic h0 m) nr (amF (some cls) (pic h0 a) (pic h0 m) nr nw od i) i := by
            rw [← lkF_ai (ai := hI h (c + 2)) (fun j hj => fa j hj)]
            rfl
          rw [hq]
          exact ⟨vp_in_nI (by omega) (by decide), go h1 f1⟩
      · cases R with
        | some cls => exact absurd z2 HR.1
        | none =>
          refine sp_mostWorth (by omega) a nw _ (H.fr f) (by rw [gI a (by omega)]; exact hn2) hw6 ?_
          simp only [rI_some, f.1, coq_0 HC, coq_1 HC, coq_2 HC, coq_3 HC, coq_4 HC, coq_5 HC, coq_6 HC, coq_7 HC, coq_8 HC, true_and, gI (a + 4) (by omega), gI (a + 5) (by omega)]
          refine ⟨vp_in_nI (by omega) (by decide), ?_⟩
          have := (mwF_bb (hI h0 (a + 4)) (hI h0 (a + 5)) (hI h0 m 0) nw hwo).1
          rw [this]
          exact go h (Fr'.refl _ _)
    · cases ho3 : od i with
      | none => rw [ho3] at z; exact absurd rfl z
      | some x =>
        rw [nI_1]
        refine pa_aims hd c ru a m nr nw R od HC H HM HR hr5 hn hn2 hw6 dca dcm dcr hod hwo k n (i + 1) _ (by omega) (f.trans (Fr'.sI (Or.inl rfl))) (fun j hj => ?_)
        rw [hI_sI, if_pos rfl]
        by_cases e : j = i
        · simp only [e, if_true, amF, ho3, odI]
        · have := fa j (by omega)
          simp only [e, if_false, amF, this]
/-- the wares that are got, as bits -/
def biF (gt : Nat → Option Nat) : Nat → Int32
  | 0 => 0
  | n + 1 => if gt n = none then biF gt n else biF gt n ||| ((1 : Int32) <<< (nI n &&& 31))
theorem oI_m1 (o : Option Nat) (h : ∀ b, o = some b → b < 2 ^ 31) : (oI o = -1) = (o = none) := by
  cases o with
  | none => simp [oI]
  | some b => simp only [oI, nI_ne_m1 (h b rfl)]; simp
theorem pa_gots {d E1 E2 : Nat} {Q : Option Value → AH → Prop} {h0 : AH} (hd : 8 ≤ d) (c a m nr nw : Nat) (gt : Nat → Option Nat) (HC : CouAt h0 c) (H : HillAt h0 a) (HM : MomAt h0 m) (hr5 : nr ≤ 5) (hn : hI h0 a 1 = nI nr) (hn2 : hI h0 a 2 = nI nw) (hw6 : nw ≤ 6) (dca : c + 5 ≤ a ∨ a + 6 ≤ c) (dcm : c + 5 ≤ m ∨ m + 6 ≤ c) (dam : a + 6 ≤ m ∨ m + 6 ≤ a) (hgt : gt = fun w => ftF (hI h0 (c + 2)) (hI h0 (m + 1)) (hI h0 (m + 2)) (hI h0 (m + 4) w) w nr) (e1 : hN h0 = E1) (e2 : hU h0 = E2) (k : ∀ h', Fr' h0 h' (fun b => b = m ∨ b = m + 2 ∨ b = m + 3 ∨ b = m + 5) → hI h' m 0 = hI h0 m 0 + 1 → (∀ j, j < 5 → hI h' (m + 2) j = if (if 0 < hI h0 a 0 then hI h0 a 0 - 1 - irm (hI h0 m 0) (hI h0 a 0) else 0) = 0 then 0 else (rwF (hI h0 (c + 2)) nr (hI h0 (a + 4)) gt (hI h0 (m + 2)) (hI h0 (m + 3)) nw).1 j) → (∀ j, hI h' (m + 3) j = (rwF (hI h0 (c + 2)) nr (hI h0 (a + 4)) gt (hI h0 (m + 2)) (hI h0 (m + 3)) nw).2 j) → (∀ j, j < nw → hI h' (m + 5) j = oI (gt j)) → (∀ j, nw ≤ j → hI h' (m + 5) j = hI h0 (m + 5) j) → Q (some (.int (biF gt nw))) h') : ∀ (n i : Nat) (h : AH), i + n = nw → Fr' h0 h (fun b => b = m + 5) → (∀ j, j < i → hI h (m + 5) j = oI (gt j)) → (∀ j, i ≤ j → hI h (m + 5) j = hI h0 (m + 5) j) → Reach d nX1_pass (84, [.ref c, .ref a, .ref m, .float 0, .int (biF gt i), .int (nI i)], []) h E1 E2 Q
  | 0, i, h, hi, f, fa, fb => by
    have : i = nw := by omega
    subst this
    refine wX1_pass_84 (by omega) c a m _ (nI i) ?_
    have gI : ∀ x, ¬ x = m + 5 → hI h x = hI h0 x := fun x hx => funext (f.2.2.2.2.1 x hx)
    have hg5 : ∀ w f, gt w = some f → f < 5 := fun w f hf => by
      have := ftF_lt _ _ _ _ _ _ _ ((congrFun hgt w).symm.trans hf)
      omega
    simp only [f.1, f.2.1, hiq_0 H, hiq_1 H, hiq_2 H, hiq_3 H, hiq_4 H, hiq_5 H, hiq_6 H, hiq_7 H, hiq_8 H, hiq_9 H, hiq_10 H, coq_0 HC, coq_1 HC, coq_2 HC, coq_3 HC, coq_4 HC, coq_5 HC, coq_6 HC, coq_7 HC, coq_8 HC, gI a (by omega), hn2, true_and, nI_le_iff (show i < 2 ^ 31 by omega) (show i < 2 ^ 31 by omega)]
    refine ⟨fun _ => ?_, fun z => absurd (Nat.le_refl i) z⟩
    refine sp_reward (by omega) c a m nr i gt (by omega) (by omega) hg5 hr5 hw6 (HC.fr f) (H.fr f) (HM.fr f) (by rw [gI a (by omega)]; exact hn) (by rw [gI a (by omega)]; exact hn2) fa (fun h1 f1 q1 q2 => ?_)
    rw [gI (c + 2) (by omega), gI (a + 4) (by omega), gI (m + 2) (by omega), gI (m + 3) (by omega)] at q1 q2
    have f2 := (f.mono (T := fun b => b = m ∨ b = m + 2 ∨ b = m + 3 ∨ b = m + 5) (fun b z => by omega)).trans (f1.mono (T := fun b => b = m ∨ b = m + 2 ∨ b = m + 3 ∨ b = m + 5) (fun b z => by omega))
    have gm : ∀ j, hI h1 m j = hI h0 m j := fun j => by rw [f1.2.2.2.2.1 m (by omega), gI m (by omega)]
    have ga : ∀ j, hI h1 a j = hI h0 a j := fun j => by rw [f1.2.2.2.2.1 a (by omega), gI a (by omega)]
    have g5 : ∀ j, hI h1 (m + 5) j = hI h (m + 5) j := fun j => by rw [f1.2.2.2.2.1 (m + 5) (by omega)]
    simp only [rV_none, f2.1, f2.2.1, hiq_0 H, hiq_1 H, hiq_2 H, hiq_3 H, hiq_4 H, hiq_5 H, hiq_6 H, hiq_7 H, hiq_8 H, hiq_9 H, hiq_10 H, moq_0 HM, moq_1 HM, moq_2 HM, moq_3 HM, moq_4 HM, moq_5 HM, moq_6 HM, moq_7 HM, moq_8 HM, moq_9 HM, moq_10 HM, coq_0 HC, coq_1 HC, coq_2 HC, coq_3 HC, coq_4 HC, coq_5 HC, coq_6 HC, coq_7 HC, coq_8 HC, true_and]
    refine sp_daysTillFeast (by omega) a _ (H.fr f2) ?_
    simp only [rI_some, gm, ga, rt_i, rt_b0, rt_b1, rt_v, rt_l, rt_o, rt_a, rV_none, rI_some, rL_some, rR_some, rT_some, hS_sI, hS_sL, hS_sR, hS_cpI, hR_sI, hR_sL, hR_cpI, hL_sI, hL_sR, hL_cpI, hI_sL, hI_sR, hN_sI, hN_sL, hN_sR, hN_cpI, hU_sI, hU_sL, hU_sR, hU_cpI, f2.1, f2.2.1, hiq_0 H, hiq_1 H, hiq_2 H, hiq_3 H, hiq_4 H, hiq_5 H, hiq_6 H, hiq_7 H, hiq_8 H, hiq_9 H, hiq_10 H, moq_0 HM, moq_1 HM, moq_2 HM, moq_3 HM, moq_4 HM, moq_5 HM, moq_6 HM, moq_7 HM, moq_8 HM, moq_9 HM, moq_10 HM, lH_eq, true_and]
    refine ⟨fun z => ⟨f2.2.2.1.trans e1, f2.2.2.2.1.trans e2, k _ (f2.trans (Fr'.sI (Or.inl rfl))) ?_ ?_ ?_ ?_ ?_⟩, fun z => ?_⟩
    · rw [hI_sI, if_pos rfl, if_pos rfl]
    · intro j hj
      rw [hI_sI, if_neg (by omega), q1, if_neg z]
    · intro j
      rw [hI_sI, if_neg (by omega), q2]
    · intro j hj
      rw [hI_sI, if_neg (by omega), g5, fa j hj]
    · intro j hj
      rw [hI_sI, if_neg (by omega), g5, fb j hj]
    · refine sp_fill (by omega) (m + 2) 5 0 (by rw [f2.1]; exact moq_7 HM) (by decide) (fun h3 f3 q3 => ?_)
      have f4 := f2.trans (f3.mono (T := fun b => b = m ∨ b = m + 2 ∨ b = m + 3 ∨ b = m + 5) (fun b z => by omega))
      have gm3 : ∀ j, hI h3 m j = hI h0 m j := fun j => by rw [f3.2.2.2.2.1 m (by omega), gm]
      simp only [rV_none, rt_v, rt_i, rt_b0, rt_b1, rt_v, rt_l, rt_o, rt_a, rV_none, rI_some, rL_some, rR_some, rT_some, hS_sI, hS_sL, hS_sR, hS_cpI, hR_sI, hR_sL, hR_cpI, hL_sI, hL_sR, hL_cpI, hI_sL, hI_sR, hN_sI, hN_sL, hN_sR, hN_cpI, hU_sI, hU_sL, hU_sR, hU_cpI, f4.1, f4.2.1, moq_0 HM, moq_1 HM, moq_2 HM, moq_3 HM, moq_4 HM, moq_5 HM, moq_6 HM, moq_7 HM, moq_8 HM, moq_9 HM, moq_10 HM, lH_eq, true_and, gm3]
      refine ⟨f4.2.2.1.trans e1, f4.2.2.2.1.trans e2, k _ (f4.trans (Fr'.sI (Or.inl rfl))) ?_ ?_ ?_ ?_ ?_⟩
      · rw [hI_sI, if_pos rfl, if_pos rfl]
      · intro j hj
        rw [hI_sI, if_neg (by omega), q3, if_pos z, if_pos hj]
      · intro j
        rw [hI_sI, if_neg (by omega), f3.2.2.2.2.1 (m + 3) (by omega), q2]
      · intro j hj
        rw [hI_sI, if_neg (by omega), f3.2.2.2.2.1 (m + 5) (by omega), g5, fa j hj]
      · intro j hj
        rw [hI_sI, if_neg (by omega), f3.2.2.2.2.1 (m + 5) (by omega), g5, fb j hj]
  | n + 1, i, h, hi, f, fa, fb => by
    refine wX1_pass_84 (by omega) c a m _ (nI i) ?_
    have gI : ∀ x, ¬ x = m + 5 → hI h x = hI h0 x := fun x hx => funext (f.2.2.2.2.1 x hx)
    simp only [f.1, f.2.1, hiq_0 H, hiq_1 H, hiq_2 H, hiq_3 H, hiq_4 H, hiq_5 H, hiq_6 H, hiq_7 H, hiq_8 H, hiq_9 H, hiq_10 H, coq_0 HC, coq_1 HC, coq_2 HC, coq_3 HC, coq_4 HC, coq_5 HC, coq_6 HC, coq_7 HC, coq_8 HC, moq_0 HM, moq_1 HM, moq_2 HM, moq_3 HM, moq_4 HM, moq_5 HM, moq_6 HM, moq_7 HM, moq_8 HM, moq_9 HM, moq_10 HM, gI a (by omega), hn2, true_and, nI_le_iff (show nw < 2 ^ 31 by omega) (show i < 2 ^ 31 by omega)]
    refine ⟨fun z => absurd z (by omega), fun _ => ?_⟩
    refine sp_firstTo (by omega) c a m i nr (HC.fr f) (H.fr f) (HM.fr f) (by omega) (by rw [gI a (by omega)]; exact hn) hr5 ?_
    rw [gI (c + 2) (by omega), gI (m + 1) (by omega), gI (m + 2) (by omega), gI (m + 4) (by omega)]
    have hgi : ftF (hI h0 (c + 2)) (hI h0 (m + 1)) (hI h0 (m + 2)) (hI h0 (m + 4) i) i nr = gt i := by rw [hgt]
    rw [hgi]
    have hg31 : ∀ b, gt i = some b → b < 2 ^ 31 := fun b hb => by
      have := ftF_lt _ _ _ _ _ _ _ (hgi.trans hb)
      omega
    simp only [rI_some, f.1, f.2.1, hS_sI, hS_sL, hS_sR, hS_cpI, hR_sI, hR_sL, hR_cpI, hL_sI, hL_sR, hL_cpI, hI_sL, hI_sR, hN_sI, hN_sL, hN_sR, hN_cpI, hU_sI, hU_sL, hU_sR, hU_cpI, moq_0 HM, moq_1 HM, moq_2 HM, moq_3 HM, moq_4 HM, moq_5 HM, moq_6 HM, moq_7 HM, moq_8 HM, moq_9 HM, moq_10 HM, vp_in_nI (show i < 6 by omega) (show 6 < 2 ^ 31 by omega), nI_clamp (show i < 2 ^ 31 by omega), lH_eq, true_and, hI_sI, if_true, oI_m1 _ hg31, nI_1]
    have go := pa_gots hd c a m nr nw gt HC H HM hr5 hn hn2 hw6 dca dcm dam hgt e1 e2 k n (i + 1) (sI h (m + 5) i (oI (gt i))) (by omega) (f.trans (Fr'.sI rfl)) (fun j hj => by rw [hI_sI, if_pos rfl]; by_cases e : j = i; { rw [if_pos e, e] }; { rw [if_neg e]; exact fa j (by omega) }) (fun j hj => by rw [hI_sI, if_pos rfl, if_neg (by omega)]; exact fb j (by omega))
    refine ⟨fun z => ?_, fun z => ?_⟩
    · simp only [biF, z, if_true] at go
      rw [z]
      exact go
    · simp only [biF, z, if_false] at go
      exact go
