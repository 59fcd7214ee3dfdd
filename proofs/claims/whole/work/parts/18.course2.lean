/-! lead, who is first, what is paid -/
def ldF (pu : Nat → Int32) (r : Nat) : Nat → Int32
  | 0 => -99
  | n + 1 => if n = r then ldF pu r n else if ldF pu r n < pu n then pu n else ldF pu r n
theorem ld_loop {d E1 E2 : Nat} {h : AH} {Q : Option Value → AH → Prop} (hd : 4 ≤ d) (a m r nr : Nat) (H : HillAt h a) (HM : MomAt h m) (hn : hI h a 1 = nI nr) (hr5 : nr ≤ 5) (hr : r < nr) (e1 : hN h = E1) (e2 : hU h = E2) (k : Q (some (.int (hI h (m + 2) r - ldF (hI h (m + 2)) r nr))) h) : ∀ (c i : Nat), i + c = nr → Reach d nX1_leadOf (16, [.ref a, .ref m, .int (nI r), .int (ldF (hI h (m + 2)) r i), .int (nI i)], []) h E1 E2 Q
  | 0, i, hi => by
    obtain ⟨s0, -⟩ := H
    obtain ⟨t0, r1, r2, r3, r4, r5, s1, s2, -⟩ := HM
    have hv : vp_in (nI r) 5 := vp_in_nI (by omega) (by decide)
    have hc : (nI r).toNatClampNeg = r := nI_clamp (by omega)
    refine wX1_leadOf_16 hd a m (nI r) _ (nI i) ⟨by rw [s0], fun _ => ?_, fun z => absurd (by rw [hn]; exact nI_le (by omega) (by omega)) z⟩
    have : i = nr := by omega
    subst this
    simp only [rt_i, rt_b0, rt_b1, rt_v, rt_l, rt_o, rt_a, rV_none, rI_some, rL_some, rR_some, rT_some, t0, r2, s2, hv, hc, true_and]
    exact ⟨e1, e2, k⟩
  | c + 1, i, hi => by
    have ih := ld_loop hd a m r nr H HM hn hr5 hr e1 e2 k c (i + 1) (by omega)
    obtain ⟨s0, -⟩ := H
    obtain ⟨t0, r1, r2, r3, r4, r5, s1, s2, -⟩ := HM
    have hv : vp_in (nI i) 5 := vp_in_nI (by omega) (by decide)
    have hc : (nI i).toNatClampNeg = i := nI_clamp (by omega)
    have hs : ldF (hI h (m + 2)) r (i + 1) = if i = r then ldF (hI h (m + 2)) r i else if ldF (hI h (m + 2)) r i < hI h (m + 2) i then hI h (m + 2) i else ldF (hI h (m + 2)) r i := rfl
    rw [hs, ← nI_1] at ih
    refine wX1_leadOf_16 hd a m (nI r) _ (nI i) ⟨by rw [s0], fun z => absurd (by rw [hn] at z; exact z) (nI_ge (by omega) (by omega)), fun _ => ?_⟩
    rw [nI_eq_iff (by omega) (by omega)]
    refine ⟨fun z => ?_, fun z => ?_⟩
    · rwa [if_pos z] at ih
    · rw [if_neg z] at ih
      simp only [t0, r2, s2, hv, hc, true_and]
      exact ih
theorem sp_leadOf {d : Nat} {h : AH} {Q : Option Value → AH → Prop} (hd : 5 ≤ d) (a m r nr : Nat) (H : HillAt h a) (HM : MomAt h m) (hn : hI h a 1 = nI nr) (hr5 : nr ≤ 5) (hr : r < nr) (k : Q (some (.int (if nr < 2 then 0 else hI h (m + 2) r - ldF (hI h (m + 2)) r nr))) h) : Calls d nX1_leadOf [.ref a, .ref m, .int (nI r)] h (hN h) (hU h) Q := by
  obtain ⟨e, rfl⟩ : ∃ e, d = e + 1 := ⟨d - 1, by omega⟩
  refine wX1_leadOf (by omega) a m (nI r) ⟨by rw [H.1], fun z => ?_, fun z => ?_⟩
  · rw [hn] at z
    have z2 : 2 ≤ nr := (nI_leI (a := 2) (by decide) (by omega)).mp z
    rw [if_neg (by omega)] at k
    exact ld_loop (by omega) a m r nr H HM hn hr5 hr rfl rfl k nr 0 (by omega)
  · rw [hn] at z
    have z2 : ¬ 2 ≤ nr := fun y => z ((nI_leI (a := 2) (by decide) (by omega)).mpr y)
    rw [if_pos (by omega)] at k
    rw [rt_i]
    exact ⟨rfl, rfl, k⟩
/-- one comes ahead of another -/
def btP (sp pu : Nat → Int32) (p : Int32) (r s : Nat) : Prop := (p - pu r * sp r) * sp s < (p - pu s * sp s) * sp r ∨ (p - pu r * sp r) * sp s = (p - pu s * sp s) * sp r ∧ r < s
noncomputable def ftF (ai sp pu : Nat → Int32) (p : Int32) (w : Nat) : Nat → Option Nat
  | 0 => none
  | n + 1 => if ai n = nI w then (match ftF ai sp pu p w n with
    | none => some n
    | some b => if (p - pu n * sp n) * sp b < (p - pu b * sp b) * sp n ∨ (p - pu n * sp n) * sp b = (p - pu b * sp b) * sp n ∧ n < b then some n else some b) else ftF ai sp pu p w n
theorem ftF_lt (ai sp pu : Nat → Int32) (p : Int32) (w : Nat) : ∀ (n b : Nat), ftF ai sp pu p w n = some b → b < n
  | 0, b, h => by cases h
  | n + 1, b, h => by
    unfold ftF at h
    split at h
    · split at h
      · cases h; omega
      · rename_i b' hb
        have := ftF_lt ai sp pu p w n b' hb
        split at h <;> cases h <;> omega
    · have := ftF_lt ai sp pu p w n b h
      omega
theorem ft_loop {d E1 E2 : Nat} {h : AH} {Q : Option Value → AH → Prop} (hd : 5 ≤ d) (c a m w nr : Nat) (HC : CouAt h c) (H : HillAt h a) (HM : MomAt h m) (hw : w < 6) (hn : hI h a 1 = nI nr) (hr5 : nr ≤ 5) (e1 : hN h = E1) (e2 : hU h = E2) (k : Q (some (.int (oI (ftF (hI h (c + 2)) (hI h (m + 1)) (hI h (m + 2)) (hI h (m + 4) w) w nr)))) h) : ∀ (n i : Nat), i + n = nr → Reach d nX1_firstTo (6, [.ref c, .int (nI w), .ref a, .ref m, .int (oI (ftF (hI h (c + 2)) (hI h (m + 1)) (hI h (m + 2)) (hI h (m + 4) w) w i)), .int (nI i)], []) h E1 E2 Q
  | 0, i, hi => by
    refine wX1_firstTo_6 (by omega) c (nI w) a m _ (nI i) ⟨by rw [H.1], fun _ => ?_, fun z => absurd (by rw [hn]; exact nI_le (by omega) (by omega)) z⟩
    have : i = nr := by omega
    subst this
    rw [rt_i]
    exact ⟨e1, e2, k⟩
  | n + 1, i, hi => by
    have ih := ft_loop hd c a m w nr HC H HM hw hn hr5 e1 e2 k n (i + 1) (by omega)
    have HMM := HM
    obtain ⟨s0, -⟩ := H
    obtain ⟨t0, r1, r2, r3, r4, r5, s1, s2, s3, s4, s5⟩ := HM
    obtain ⟨c0, q0, q1, q2, q3, u1, u2, u3, u4⟩ := HC
    have hv : vp_in (nI i) 5 := vp_in_nI (by omega) (by decide)
    have hc : (nI i).toNatClampNeg = i := nI_clamp (by omega)
    have hvw : vp_in (nI w) 6 := vp_in_nI (by omega) (by decide)
    have hcw : (nI w).toNatClampNeg = w := nI_clamp (by omega)
    have hs : ftF (hI h (c + 2)) (hI h (m + 1)) (hI h (m + 2)) (hI h (m + 4) w) w (i + 1) = if hI h (c + 2) i = nI w then (match ftF (hI h (c + 2)) (hI h (m + 1)) (hI h (m + 2)) (hI h (m + 4) w) w i with
      | none => some i
      | some b => if (hI h (m + 4) w - hI h (m + 2) i * hI h (m + 1) i) * hI h (m + 1) b < (hI h (m + 4) w - hI h (m + 2) b * hI h (m + 1) b) * hI h (m + 1) i ∨ (hI h (m + 4) w - hI h (m + 2) i * hI h (m + 1) i) * hI h (m + 1) b = (hI h (m + 4) w - hI h (m + 2) b * hI h (m + 1) b) * hI h (m + 1) i ∧ i < b then some i else some b) else ftF (hI h (c + 2)) (hI h (m + 1)) (hI h (m + 2)) (hI h (m + 4) w) w i := rfl
    rw [hs, ← nI_1] at ih
    refine wX1_firstTo_6 (by omega) c (nI w) a m _ (nI i) ⟨by rw [s0], fun z => absurd (by rw [hn] at z; exact z) (nI_ge (by omega) (by omega)), fun _ => ?_⟩
    simp only [c0, q1, u2, hv, hc, true_and]
    refine ⟨fun z => ?_, fun z => ?_⟩
    · rwa [if_neg z] at ih
    · rw [if_pos z] at ih
      cases hb : ftF (hI h (c + 2)) (hI h (m + 1)) (hI h (m + 2)) (hI h (m + 4) w) w i with
      | none =>
        rw [hb] at ih
        exact ⟨fun _ => ih, fun y => absurd rfl y⟩
      | some b =>
        have hbl := ftF_lt _ _ _ _ _ _ _ hb
        rw [hb] at ih
        simp only at ih
        refine ⟨fun y => absurd y (nI_ne_m1 (by omega)), fun _ => ?_⟩
        simp only [oI, t0, r4, s4, hvw, hcw, true_and]
        refine sp_beats hd m i b _ HMM (by omega) (by omega) ?_
        rw [rI_some, bI0]
        refine ⟨fun h1 => ?_, fun h1 => ?_⟩
        · rwa [if_neg h1] at ih
        · rwa [if_pos (Decidable.not_not.mp h1)] at ih
theorem sp_firstTo {d : Nat} {h : AH} {Q : Option Value → AH → Prop} (hd : 6 ≤ d) (c a m w nr : Nat) (HC : CouAt h c) (H : HillAt h a) (HM : MomAt h m) (hw : w < 6) (hn : hI h a 1 = nI nr) (hr5 : nr ≤ 5) (k : Q (some (.int (oI (ftF (hI h (c + 2)) (hI h (m + 1)) (hI h (m + 2)) (hI h (m + 4) w) w nr)))) h) : Calls d nX1_firstTo [.ref c, .int (nI w), .ref a, .ref m] h (hN h) (hU h) Q := by
  obtain ⟨e, rfl⟩ : ∃ e, d = e + 1 := ⟨d - 1, by omega⟩
  exact wX1_firstTo (by omega) c (nI w) a m (ft_loop (by omega) c a m w nr HC H HM hw hn hr5 rfl rfl k nr 0 (by omega))
/-- the first one pays those who ran for it too -/
def pyF (ai : Nat → Int32) (f w : Nat) (pu : Nat → Int32) : Nat → Nat → Int32
  | 0 => pu
  | n + 1 => if ¬ n = f ∧ ai n = nI w ∧ -99 ≤ pyF ai f w pu n f - 1 ∧ pyF ai f w pu n n + 1 ≤ 99 then gvF (pyF ai f w pu n) f n 1 else pyF ai f w pu n
theorem gvF_congr {f g : Nat → Int32} {r s : Nat} {x : Int32} (e : ∀ j, f j = g j) : ∀ j, gvF f r s x j = gvF g r s x j := fun j => by
  rw [show f = g from funext e]
theorem py_loop {d E1 E2 : Nat} {Q : Option Value → AH → Prop} (hd : 5 ≤ d) (c a m f w nr : Nat) (ai pu : Nat → Int32) (hcm : c + 2 ≠ m + 2) (ham : a ≠ m + 2) (hf : f < 5) (hr5 : nr ≤ 5) (hw : w < 6) : ∀ (n i : Nat) (h : AH), i + n = nr → CouAt h c → HillAt h a → MomAt h m → hI h a 1 = nI nr → (∀ j, hI h (c + 2) j = ai j) → (∀ j, hI h (m + 2) j = pyF ai f w pu i j) → hN h = E1 → hU h = E2 → (∀ h', Fr' h h' (fun b => b = m + 2) → (∀ j, hI h' (m + 2) j = pyF ai f w pu nr j) → Q none h') → Reach d nX1_payRivals (3, [.ref c, .int (nI f), .int (nI w), .ref a, .ref m, .int (nI i)], []) h E1 E2 Q
  | 0, i, h, hi, HC, H, HM, hn, hai, hpu, e1, e2, k => by
    refine wX1_payRivals_3 (by omega) c (nI f) (nI w) a m (nI i) ⟨by rw [H.1], fun _ => ?_, fun z => absurd (by rw [hn]; exact nI_le (by omega) (by omega)) z⟩
    have : i = nr := by omega
    subst this
    rw [rt_v]
    exact ⟨e1, e2, k h (Fr'.refl _ _) hpu⟩
  | n + 1, i, h, hi, HC, H, HM, hn, hai, hpu, e1, e2, k => by
    have hs : pyF ai f w pu (i + 1) = if ¬ i = f ∧ ai i = nI w ∧ -99 ≤ pyF ai f w pu i f - 1 ∧ pyF ai f w pu i i + 1 ≤ 99 then gvF (pyF ai f w pu i) f i 1 else pyF ai f w pu i := rfl
    have skip : ¬ (¬ i = f ∧ ai i = nI w ∧ -99 ≤ pyF ai f w pu i f - 1 ∧ pyF ai f w pu i i + 1 ≤ 99) → Reach d nX1_payRivals (3, [.ref c, .int (nI f), .int (nI w), .ref a, .ref m, .int (nI i + 1)], []) h E1 E2 Q := fun z => by
      rw [nI_1]
      exact py_loop hd c a m f w nr ai pu hcm ham hf hr5 hw n (i + 1) h (by omega) HC H HM hn hai (fun j => by rw [hpu, hs, if_neg z]) e1 e2 k
    have HMM := HM
    obtain ⟨t0, r1, r2, r3, r4, r5, s1, s2, s3, s4, s5⟩ := HM
    have HCC := HC
    obtain ⟨c0, q0, q1, q2, q3, u1, u2, u3, u4⟩ := HC
    have hv : vp_in (nI i) 5 := vp_in_nI (by omega) (by decide)
    have hc : (nI i).toNatClampNeg = i := nI_clamp (by omega)
    refine wX1_payRivals_3 (by omega) c (nI f) (nI w) a m (nI i) ⟨by rw [H.1], fun z => absurd (by rw [hn] at z; exact z) (nI_ge (by omega) (by omega)), fun _ => ?_⟩
    rw [nI_eq_iff (by omega) (by omega)]
    refine ⟨fun z => skip (fun y => y.1 z), fun z => ?_⟩
    simp only [c0, q1, u2, hv, hc, true_and, hai]
    refine ⟨fun z2 => skip (fun y => z2 y.2.1), fun z2 => ⟨by rw [t0], ?_⟩⟩
    refine sp_canLend hd m f i 1 HMM hf (by omega) ?_
    rw [rI_some, bI0, hpu, hpu]
    refine ⟨fun z3 => skip (fun y => z3 y.2.2), fun z3 => ⟨by rw [t0], ?_⟩⟩
    refine sp_give hd m f i 1 HMM hf (by omega) (fun h' fr g => ?_)
    rw [rV_none, nI_1]
    refine py_loop hd c a m f w nr ai pu hcm ham hf hr5 hw n (i + 1) h' (by omega) (HCC.fr fr) (H.fr fr) (HMM.fr fr) (by rw [fr.2.2.2.2.1 a ham, hn]) (fun j => by rw [fr.2.2.2.2.1 (c + 2) hcm, hai]) (fun j => ?_) (fr.2.2.1.trans e1) (fr.2.2.2.1.trans e2) (fun h2 f2 g2 => k h2 (fr.trans f2) g2)
    rw [g j, hs, if_pos ⟨z, z2, Decidable.not_not.mp z3⟩]
    exact gvF_congr hpu j
