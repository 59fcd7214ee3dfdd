/-! rows by codes -/
theorem lpF_add {σ : Type} (f : Nat → σ → σ) (a : Nat) (s : σ) : ∀ m, lpF f (a + m) s = lpF (fun j => f (a + j)) m (lpF f a s)
  | 0 => rfl
  | m + 1 => by
    show f (a + m) (lpF f (a + m) s) = f (a + m) (lpF (fun j => f (a + j)) m (lpF f a s))
    rw [lpF_add f a s m]
theorem lpF_mul {σ : Type} (f : Nat → σ → σ) (m : Nat) (s : σ) : ∀ a, lpF f (a * m) s = lpF (fun i s => lpF (fun j => f (i * m + j)) m s) a s
  | 0 => by simp [lpF]
  | a + 1 => by
    rw [Nat.succ_mul, lpF_add, lpF_mul f m s a]
    rfl
theorem lpF_cg {σ : Type} {f g : Nat → σ → σ} (s : σ) : ∀ n, (∀ i, i < n → ∀ s, f i s = g i s) → lpF f n s = lpF g n s
  | 0, _ => rfl
  | n + 1, h => by
    show f n (lpF f n s) = g n (lpF g n s)
    rw [lpF_cg s n (fun i hi => h i (by omega)), h n (by omega)]
theorem lpF_id {σ : Type} (s : σ) : ∀ n, lpF (fun _ (s : σ) => s) n s = s
  | 0 => rfl
  | n + 1 => lpF_id s n
noncomputable def wbF (R : Option (List (List (Nat × Nat) × List (Nat × Nat)))) (A : PC) (nr nw r : Nat) : Nat → Nat → PC → Option PC
  | 0, _, N => some N
  | n + 1, c, N => if mrB A (N 0 0) (c / (nw + 1) ^ n % (nw + 1)) = true then wbF R A nr nw r n c (paF R A nr nw (od1 r (c / (nw + 1) ^ n % (nw + 1))) N) else none
def dgC (nw : Nat) : Nat → Nat → (Nat → Int32) → Nat → (Nat → Int32)
  | 0, _, ch, _ => ch
  | n + 1, k, ch, c => dgC nw n (k + 1) (upd ch k (cI (c / (nw + 1) ^ n % (nw + 1)))) c
noncomputable def stF (R : Option (List (List (Nat × Nat) × List (Nat × Nat)))) (A : PC) (nr nw r n k : Nat) (N : PC) (ch : Nat → Int32) (c : Nat) (s : Int32 × (Nat → Int32)) : Int32 × (Nat → Int32) := match wbF R A nr nw r n c N with
  | none => s
  | some N' => if s.1 < N' 3 r then (N' 3 r, dgC nw n k ch c) else s
theorem dig_low (b n i j x : Nat) (hb : 0 < b) (hx : x < n) : (i * b ^ n + j) / b ^ x % b = j / b ^ x % b := by
  obtain ⟨y, rfl⟩ : ∃ y, n = x + 1 + y := ⟨n - x - 1, by omega⟩
  have e : i * b ^ (x + 1 + y) + j = j + b ^ x * (b * (i * b ^ y)) := by
    rw [Nat.pow_add, Nat.pow_succ]
    generalize b ^ x = u
    generalize b ^ y = w
    have : i * (u * b * w) = u * (b * (i * w)) := by
      rw [Nat.mul_comm i (u * b * w), Nat.mul_assoc u b w, Nat.mul_assoc u (b * w) i, Nat.mul_assoc b w i, Nat.mul_comm w i]
    omega
  rw [e, Nat.add_mul_div_left _ _ (Nat.pow_pos hb), Nat.add_mul_mod_self_left]
theorem wbF_low (R : Option (List (List (Nat × Nat) × List (Nat × Nat)))) (A : PC) (nr nw r m i j : Nat) : ∀ (n : Nat) (N : PC), n ≤ m → wbF R A nr nw r n (i * (nw + 1) ^ m + j) N = wbF R A nr nw r n j N
  | 0, N, _ => rfl
  | n + 1, N, h => by
    simp only [wbF, dig_low (nw + 1) m i j n (by omega) (by omega), wbF_low R A nr nw r m i j n _ (show n ≤ m by omega)]
theorem dgC_low (nw m i j : Nat) : ∀ (n k : Nat) (ch : Nat → Int32), n ≤ m → dgC nw n k ch (i * (nw + 1) ^ m + j) = dgC nw n k ch j
  | 0, k, ch, _ => rfl
  | n + 1, k, ch, h => by
    simp only [dgC, dig_low (nw + 1) m i j n (by omega) (by omega), dgC_low nw m i j n (k + 1) _ (show n ≤ m by omega)]
theorem tr_codes (R : Option (List (List (Nat × Nat) × List (Nat × Nat)))) (A : PC) (nr nw r : Nat) : ∀ (n k : Nat) (N : PC) (ch : Nat → Int32) (s : Int32 × (Nat → Int32)), trF R A nr nw r n k N ch s = lpF (stF R A nr nw r n k N ch) ((nw + 1) ^ n) s
  | 0, k, N, ch, s => by
    simp only [trF, Nat.pow_zero, lpF, stF, wbF, dgC]
    rfl
  | n + 1, k, N, ch, s => by
    rw [Nat.pow_succ, Nat.mul_comm, lpF_mul]
    simp only [trF]
    refine lpF_cg s (nw + 1) (fun i hi s => ?_)
    have hp : 0 < (nw + 1) ^ n := Nat.pow_pos (by omega)
    have dg : ∀ j, j < (nw + 1) ^ n → (i * (nw + 1) ^ n + j) / (nw + 1) ^ n % (nw + 1) = i := fun j hj => by
      rw [Nat.mul_comm, Nat.mul_add_div hp, Nat.div_eq_of_lt hj, Nat.add_zero, Nat.mod_eq_of_lt hi]
    by_cases c : mrB A (N 0 0) i = true
    · rw [if_pos c, tr_codes R A nr nw r n (k + 1)]
      refine lpF_cg s _ (fun j hj s => ?_)
      simp only [stF, wbF, dgC, dg j hj, if_pos c, wbF_low R A nr nw r n i j n _ (Nat.le_refl n), dgC_low nw n i j n _ _ (Nat.le_refl n)]
    · rw [if_neg c]
      have : lpF (fun j => stF R A nr nw r (n + 1) k N ch (i * (nw + 1) ^ n + j)) ((nw + 1) ^ n) s = lpF (fun _ s => s) ((nw + 1) ^ n) s := lpF_cg s _ (fun j hj s => by simp only [stF, wbF, dg j hj, if_neg c])
      rw [this, lpF_id]
theorem dgC_lt (nw : Nat) : ∀ (n k : Nat) (ch : Nat → Int32) (c j : Nat), j < k → dgC nw n k ch c j = ch j
  | 0, _, _, _, _, _ => rfl
  | n + 1, k, ch, c, j, h => by
    simp only [dgC]
    rw [dgC_lt nw n (k + 1) _ c j (by omega)]
    unfold upd
    rw [if_neg (by omega)]
theorem qc_must {h : AH} {m nr nw r i : Nat} {A N : PC} {R : Option (List (List (Nat × Nat) × List (Nat × Nat)))} {od : Nat → Option Int32} (H : QC h m nr nw A N R od) (hi : i < 1000) (ho : ∀ j, j < nr → j ≠ r → od j = none) : QC (sI h (m + 32) r (cI i)) m nr nw A N R (od1 r i) := by
  obtain ⟨H0, ⟨a1, a2, a3, a4, a5⟩, H2, H3, H4⟩ := H
  have g : ∀ c, c ≠ m + 32 → ∀ j, hI (sI h (m + 32) r (cI i)) c j = hI h c j := fun c hc j => by rw [hI_sI, if_neg hc]
  have eA : rA (sI h (m + 32) r (cI i)) m = rA h m := by
    funext k j
    unfold rA
    split <;> exact g _ (by omega) _
  have eM : rM (sI h (m + 32) r (cI i)) m = rM h m := by
    funext k j
    unfold rM
    split <;> exact g _ (by omega) _
  refine ⟨H0, ⟨by rw [g _ (by omega)]; exact a1, by rw [g _ (by omega)]; exact a2, by rw [eA]; exact a3, by rw [eA]; exact a4, by rw [eA]; exact a5⟩, by rw [eM]; exact H2, H3.cg (fun b h1 h2 => g b (by omega)) (g _ (by omega) 6), fun j hj => ?_⟩
  rw [hI_sI, if_pos rfl]
  by_cases c : j = r
  · subst c
    rw [if_pos rfl]
    simp only [od1, if_true, odI]
    exact ⟨trivial, fun z => cI_m5 hi (Option.some.inj z)⟩
  · rw [if_neg c]
    have := H4 j hj
    rw [ho j hj c] at this
    simp only [od1, if_neg c]
    exact this
theorem qc_free {h h' : AH} {m nr nw : Nat} {A N : PC} {R : Option (List (List (Nat × Nat) × List (Nat × Nat)))} {od : Nat → Option Int32} {S : Nat → Prop} (H : QC h m nr nw A N R od) (f : Fr' h h' S) (hs : ∀ c, S c → 34 + m ≤ c) : QC h' m nr nw A N R od := by
  obtain ⟨H0, ⟨a1, a2, a3, a4, a5⟩, H2, H3, H4⟩ := H
  have g : ∀ c, c < 34 + m → ∀ j, hI h' c j = hI h c j := fun c hc j => f.2.2.2.2.1 c (fun z => by have := hs c z; omega) j
  have eA : rA h' m = rA h m := by
    funext k j
    unfold rA
    split <;> exact g _ (by omega) _
  have eM : rM h' m = rM h m := by
    funext k j
    unfold rM
    split <;> exact g _ (by omega) _
  exact ⟨H0.fr f, ⟨by rw [g _ (by omega)]; exact a1, by rw [g _ (by omega)]; exact a2, by rw [eA]; exact a3, by rw [eA]; exact a4, by rw [eA]; exact a5⟩, by rw [eM]; exact H2, H3.cg (fun b h1 h2 => g b (by omega)) (g _ (by omega) 6), fun j hj => by rw [g _ (by omega)]; exact H4 j hj⟩
theorem pow_343 {b n : Nat} (hb : b ≤ 7) (hn : n ≤ 3) : b ^ n ≤ 343 := by
  have h1 : b ^ n ≤ 7 ^ n := Nat.pow_le_pow_left hb n
  have h2 : 7 ^ n ≤ 7 ^ 3 := Nat.pow_le_pow_right (by decide) hn
  have : 7 ^ 3 = 343 := by decide
  omega
def wbV (r : Nat) (o : Option PC) : Int32 := match o with
  | none => -1
  | some N => N 3 r
theorem wb_loop {d E1 E2 : Nat} {Q : Option Value → AH → Prop} {h0 : AH} {b36 : Nat → Int32} (hd : 12 ≤ d) (m nr nw r n c : Nat) (A M : PC) (R : Option (List (List (Nat × Nat) × List (Nat × Nat)))) (hr : r < nr) (hn : n ≤ 3) (hc : c < 343) (H : QK h0 m nr nw A M R) (e1 : hN h0 = E1) (e2 : hU h0 = E2) (X : Option PC) (k : ∀ h', Rs h0 h' m → M5 h' m → (X ≠ none → ∀ j, j < n → hI h' (m + 35) j = dgC nw n 0 (fun _ => 0) c j) → (∀ j, hI h' (m + 36) j = b36 j) → Q (some (.int (wbV r X))) h') : ∀ (rem i : Nat) (N : PC) (od : Nat → Option Int32) (h : AH) (can : Int32), i + rem = n → Sv h0 h m → QC h m nr nw A N R od → (∀ j, j < nr → j ≠ r → od j = none) → (∀ j, j < 5 → j ≠ r → hI h (m + 32) j = -5) → (∀ j, hI h (m + 36) j = b36 j) → (can = 0 ∨ can = 1) → (can = 0 → X = none) → (can = 1 → X = wbF R A nr nw r rem c N ∧ (∃ D : Int, D + rem ≤ 50000 ∧ momOk D nr nw N) ∧ ∃ ch : Nat → Int32, (∀ j, j < i → hI h (m + 35) j = ch j) ∧ dgC nw n 0 (fun _ => 0) c = dgC nw rem i ch c) → Reach d nX12_wealthByRow (10, [.ref m, .int (nI r), .int (nI n), .int (nI c), .float 0, .int (nI ((nw + 1) ^ rem)), .int can, .int (nI i)], []) h E1 E2 Q := by
  have hok := H.of_r (by omega)
  have hr5 := hok.1.1
  have hw6 := hok.1.2.1
  -- the end of it
  have fin : ∀ (h : AH) (can : Int32) (N : PC) (od : Nat → Option Int32), Sv h0 h m → QC h m nr nw A N R od → (∀ j, j < 5 → j ≠ r → hI h (m + 32) j = -5) → (∀ j, hI h (m + 36) j = b36 j) → (can = 0 ∨ can = 1) → (can = 0 → X = none) → (can = 1 → X = some N ∧ ∀ j, j < n → hI h (m + 35) j = dgC nw n 0 (fun _ => 0) c j) → (can = 0 → Calls d 212 [.ref m] (sI h (m + 32) r (-5)) (hN h) (hU h) (fun r3 h2 => rV r3 (hN h2 = E1 ∧ hU h2 = E2 ∧ Q (some (.int (-1))) h2))) ∧ (¬ can = 0 → vp_in (nI r) 5 ∧ Calls d 212 [.ref m] (sI h (m + 32) r (-5)) (hN h) (hU h) (fun r5 h4 => rV r5 (hN h4 = E1 ∧ hU h4 = E2 ∧ Q (some (.int (hI h (m + 3) r))) h4))) := fun h can N od S HQ ho h36 hcan c0 c1 => by
    have f5 : Fr' h (sI h (m + 32) r (-5)) (fun c => c = m + 32) := Fr'.sI rfl
    have S5 := S.wr f5 (fun c z => by omega)
    have m5 : ∀ h2 : AH, (∀ j, hI h2 (m + 32) j = hI (sI h (m + 32) r (-5)) (m + 32) j) → M5 h2 m := fun h2 e j hj => by
      rw [e, hI_sI, if_pos rfl]
      by_cases cc : j = r
      · rw [if_pos cc]
      · rw [if_neg cc]; exact ho j hj cc
    have lay : ∀ h2 : AH, Fr' (sI h (m + 32) r (-5)) h2 (fun b => b = m ∨ ∃ r ∈ rowsL, b = m + r) → ∀ x, x = 35 ∨ x = 36 → ∀ j, hI h2 (m + x) j = hI h (m + x) j := fun h2 f2 x hx j => by
      rw [f2.2.2.2.2.1 (m + x) (fun z => by
        rcases z with z | ⟨q, hq, z⟩
        · omega
        · have := rows_lt q hq
          omega), hI_sI, if_neg (by omega)]
    refine ⟨fun z => ?_, fun z => ⟨vp_in_nI (by omega) (by decide), ?_⟩⟩
    · refine sv_lays (h0 := h0) (h := sI h (m + 32) r (-5)) (by omega) m H.1.1 S5 (fun h2 S2 f2 m2 => ?_)
      have e3 := S2.1.1
      have := k h2 S2 (m5 h2 m2) (fun y => absurd (c0 z) y) (fun j => by rw [lay h2 f2 36 (Or.inr rfl)]; exact h36 j)
      rw [c0 z] at this
      rw [rV_none]
      exact ⟨e3.2.2.1.trans e1, e3.2.2.2.1.trans e2, this⟩
    · have z1 : can = 1 := hcan.resolve_left z
      obtain ⟨x1, x2⟩ := c1 z1
      have ew : hI h (m + 3) r = N 3 r := (HQ.2.2.1.2.1 r hr).2.2
      refine sv_lays (h0 := h0) (h := sI h (m + 32) r (-5)) (by omega) m H.1.1 S5 (fun h2 S2 f2 m2 => ?_)
      have e3 := S2.1.1
      have := k h2 S2 (m5 h2 m2) (fun _ j hj => by rw [lay h2 f2 35 (Or.inl rfl)]; exact x2 j hj) (fun j => by rw [lay h2 f2 36 (Or.inr rfl)]; exact h36 j)
      rw [x1] at this
      rw [rV_none, ew]
      exact ⟨e3.2.2.1.trans e1, e3.2.2.2.1.trans e2, this⟩
  intro rem
  induction rem with
  | zero =>
    intro i N od h can hi S HQ hod ho h36 hcan c0 c1
    have : i = n := by omega
    subst this
    have HM := HQ.1
    refine wX12_wealthByRow_10 (by omega) m (nI r) (nI i) (nI c) _ can (nI i) ?_
    have f := fin h can N od S HQ ho h36 hcan c0 (fun z => by
      obtain ⟨x1, -, ch, x2, x3⟩ := c1 z
      refine ⟨x1, fun j hj => ?_⟩
      rw [x3, x2 j hj]
      rfl)
    simp only [rt_i, rt_b0, rt_b1, rt_v, rt_l, rt_o, rt_a, rV_none, rI_some, rL_some, rR_some, rT_some, rt_bI, hIf_sL, hIf_sR, hS_sI, hS_sL, hS_sR, hS_cpI, hR_sI, hR_sL, hR_cpI, hL_sI, hL_sR, hL_cpI, hI_sL, hI_sR, hN_sI, hN_sL, hN_sR, hN_cpI, hU_sI, hU_sL, hU_sR, hU_cpI, tn0, tn1, tn2, tn3, tn4, tn5, tn6, tn7, tn8, tn9, tn10, tn11, tn12, tn13, tn14, tn15, tn16, tn17, tn18, tn19, tn20, tn21, tn22, tn23, tn24, tn25, tn26, tn27, tn28, tn29, tn30, tn31, tn32, tn33, tn34, tn35, tn36, tn37, tn38, tn39, tn40, tn41, tn42, tn43, tn44, tn45, tn46, tn47, tn48, tn49, tn50, tn51, tn52, tn53, tn54, tn55, tn56, tn57, tn58, tn59, tn60, lH_eq, true_and, and_true, mdq_0 HM, mdq_3 HM, mds_3 HM, mdq_42 HM, mds_42 HM, vp_in_nI (show r < 5 by omega) (show 5 < 2 ^ 31 by omega), nI_clamp (show r < 2 ^ 31 by omega), nI_le_iff (show i < 2 ^ 31 by omega) (show i < 2 ^ 31 by omega), hI_sI, show (m + 3 = m + 32) = False by simp, if_false]
    refine ⟨fun _ => ⟨f.1, fun z => (f.2 z).2⟩, fun z => absurd (Nat.le_refl i) z⟩
  | succ rem ih =>
    intro i N od h can hi S HQ hod ho h36 hcan c0 c1
    have HM := HQ.1
    have hpw := pow_343 (b := nw + 1) (n := rem) (by omega) (by omega)
    have hpw2 := pow_343 (b := nw + 1) (n := rem + 1) (by omega) (by omega)
    have hp0 : 0 < (nw + 1) ^ rem := Nat.pow_pos (by omega)
    have en : hI h (m + 1) 2 + 1 = nI (nw + 1) := by rw [HQ.2.1.2.1, nI_1]
    have ed : nI ((nw + 1) ^ (rem + 1)) / nI (nw + 1) = nI ((nw + 1) ^ rem) := by
      rw [pk_div (by omega) (by omega) (by omega), Nat.pow_succ, Nat.mul_div_cancel _ (by omega)]
    have ec : nI c / nI ((nw + 1) ^ rem) = nI (c / (nw + 1) ^ rem) := pk_div (by omega) hp0 (by omega)
    have hcd : c / (nw + 1) ^ rem ≤ c := Nat.div_le_self _ _
    have er : nI (c / (nw + 1) ^ rem) - nI (c / (nw + 1) ^ rem) / nI (nw + 1) * nI (nw + 1) = nI (c / (nw + 1) ^ rem % (nw + 1)) := pk_rem (by omega) (by omega) (by omega)
    have hml := Nat.mod_lt (c / (nw + 1) ^ rem) (show 0 < nw + 1 by omega)
    refine wX12_wealthByRow_10 (by omega) m (nI r) (nI n) (nI c) _ can (nI i) ?_
    simp only [rt_i, rt_b0, rt_b1, rt_v, rt_l, rt_o, rt_a, rV_none, rI_some, rL_some, rR_some, rT_some, rt_bI, hIf_sL, hIf_sR, hS_sI, hS_sL, hS_sR, hS_cpI, hR_sI, hR_sL, hR_cpI, hL_sI, hL_sR, hL_cpI, hI_sL, hI_sR, hN_sI, hN_sL, hN_sR, hN_cpI, hU_sI, hU_sL, hU_sR, hU_cpI, tn0, tn1, tn2, tn3, tn4, tn5, tn6, tn7, tn8, tn9, tn10, tn11, tn12, tn13, tn14, tn15, tn16, tn17, tn18, tn19, tn20, tn21, tn22, tn23, tn24, tn25, tn26, tn27, tn28, tn29, tn30, tn31, tn32, tn33, tn34, tn35, tn36, tn37, tn38, tn39, tn40, tn41, tn42, tn43, tn44, tn45, tn46, tn47, tn48, tn49, tn50, tn51, tn52, tn53, tn54, tn55, tn56, tn57, tn58, tn59, tn60, lH_eq, true_and, and_true, mdq_0 HM, mdq_1 HM, mds_1 HM, mdq_3 HM, mds_3 HM, mdq_42 HM, mds_42 HM, mdq_48 HM, mds_48 HM, vl7_0, vl7_1, vl7_2, vl7_3, vl7_4, vl7_5, vl7_6, vp_in_nI (show r < 5 by omega) (show 5 < 2 ^ 31 by omega), nI_clamp (show r < 2 ^ 31 by omega), vp_in_nI (show i < 3 by omega) (show 3 < 2 ^ 31 by omega), nI_clamp (show i < 2 ^ 31 by omega), nI_le_iff (show n < 2 ^ 31 by omega) (show i < 2 ^ 31 by omega), en, ed, ec, er, hI_sI, if_true, show (m + 3 = m + 32) = False by simp, show (m + 35 = m + 32) = False by simp, if_false, show nI (c / (nw + 1) ^ rem % (nw + 1)) - 1 = cI (c / (nw + 1) ^ rem % (nw + 1)) from rfl, cI_m1 (show c / (nw + 1) ^ rem % (nw + 1) < 1000 by omega), show (1 : Int32) = 0 ↔ False by decide, show (0 : Int32) = 0 ↔ True by decide, false_implies, not_false_eq_true, true_implies, nI_1, forall_const, not_true_eq_false]
    refine ⟨fun z => absurd z (by omega), fun _ => ⟨fun z => ?_, fun z => ⟨nI_ne0 (by omega) (by omega), nI_ne0 (by omega) (by omega), nI_ne0 (by omega) (by omega), ?_⟩⟩⟩
    · have f := fin h can N od S HQ ho h36 hcan c0 (fun y => by rw [z] at y; exact absurd y (by decide))
      exact ⟨fun _ => f.1 z, fun y => absurd z y⟩
    · have z1 : can = 1 := hcan.resolve_left z
      obtain ⟨x1, ⟨D, hD, hN0⟩, ch, x2, x3⟩ := c1 z1
      generalize hdg : c / (nw + 1) ^ rem % (nw + 1) = dg at hml
      have x1' : X = if mrB A (N 0 0) dg = true then wbF R A nr nw r rem c (paF R A nr nw (od1 r dg) N) else none := by
        rw [x1]; simp only [wbF, hdg]
      have f1 : Fr' h (sI h (m + 35) i (cI dg)) (fun c => c = m + 35) := Fr'.sI rfl
      have Q1 := qc_free HQ f1 (fun c z => by omega)
      have Q2 := qc_must (i := dg) Q1 (by omega) hod
      have f2 : Fr' h (sI (sI h (m + 35) i (cI dg)) (m + 32) r (cI dg)) (fun c => c = m + 35 ∨ c = m + 32) := (Fr'.sI (Or.inl rfl)).trans (Fr'.sI (Or.inr rfl))
      have S2 := S.wr f2 (fun c z => by omega)
      have ho2 : ∀ j, j < 5 → j ≠ r → hI (sI (sI h (m + 35) i (cI dg)) (m + 32) r (cI dg)) (m + 32) j = -5 := fun j hj hne => by
        rw [hI_sI, if_pos rfl, if_neg hne, hI_sI, if_neg (by omega)]; exact ho j hj hne
      have od1n : ∀ j, j < nr → j ≠ r → od1 r dg j = none := fun j _ hne => by simp [od1, hne]
      have t2 : ∀ j, j < i + 1 → hI (sI (sI h (m + 35) i (cI dg)) (m + 32) r (cI dg)) (m + 35) j = upd ch i (cI dg) j := fun j hj => by
        rw [hI_sI, if_neg (by omega), hI_sI, if_pos rfl]
        unfold upd
        by_cases cc : j = i
        · rw [if_pos cc, if_pos cc]
        · rw [if_neg cc, if_neg cc]; exact x2 j (by omega)
      have x3' : dgC nw n 0 (fun _ => 0) c = dgC nw rem (i + 1) (upd ch i (cI dg)) c := by rw [x3]; simp only [dgC, hdg]
      have goes : mrB A (N 0 0) dg = true → Calls d 198 [.ref m] (sI (sI h (m + 35) i (cI dg)) (m + 32) r (cI dg)) (hN h) (hU h) (fun r14 h13 => rI r14 fun x15 => Reach d 220 (10, [.ref m, .int (nI r), .int (nI n), .int (nI c), .float 0, .int (nI ((nw + 1) ^ rem)), .int 1, .int (nI (i + 1))], []) h13 E1 E2 Q) := fun hb => by
        refine qc_goes (h := sI (sI h (m + 35) i (cI dg)) (m + 32) r (cI dg)) (by omega) m nr nw A N R _ Q2 hok.1 hN0 (fun h3 f3 q3 Q3 => ?_)
        rw [rI_some]
        rw [if_pos hb] at x1'
        refine ih (i + 1) _ _ h3 1 (by omega) (S2.wr f3 (fun c z => gs_ok z)) Q3 od1n (fun j hj hne => by rw [f3.2.2.2.2.1 (m + 32) (by unfold GS; omega)]; exact ho2 j hj hne) (fun j => by rw [f3.2.2.2.2.1 (m + 36) (by unfold GS; omega), f2.2.2.2.2.1 (m + 36) (by omega)]; exact h36 j) (Or.inr rfl) (fun y => absurd y (by decide)) (fun _ => ⟨x1', ⟨D + 1, by omega, paF_ok (by omega) hok.1 hN0⟩, upd ch i (cI dg), fun j hj => by rw [f3.2.2.2.2.1 (m + 35) (by unfold GS; omega)]; exact t2 j hj, x3'⟩)
      refine ⟨fun y => goes (by simp [mrB, y]), fun y => ?_⟩
      obtain ⟨w, rfl⟩ : ∃ w, dg = w + 1 := ⟨dg - 1, by omega⟩
      rw [cI_s]
      have e8 : hI (sI (sI h (m + 35) i (nI w)) (m + 32) r (nI w)) (m + 8) w = A 5 w := by
        rw [hI_sI, if_neg (by omega), hI_sI, if_neg (by omega)]
        exact (HQ.2.1.2.2.1.2 w (by omega)).2
      have e13 : hI (sI (sI h (m + 35) i (nI w)) (m + 32) r (nI w)) (m + 1) 3 = N 0 0 := by
        rw [hI_sI, if_neg (by omega), hI_sI, if_neg (by omega)]
        exact HQ.2.2.1.1
      rw [cI_s] at goes Q2 S2 f2 ho2 t2
      refine m_isThere (h := sI (sI h (m + 35) i (nI w)) (m + 32) r (nI w)) (by omega) m w HM (by omega) (by rw [e8]; exact pos_of (hok.1.2.2.2.2 w (by omega)).2.2.1) ?_
      have hm : (mrB A (N 0 0) (w + 1) = true) = (0 < A 5 w ∧ irm (N 0 0) (A 5 w) = 0) := by
        simp only [mrB, Nat.add_sub_cancel]
        rw [← thB_t]
        simp
      simp only [rI_some, bI0, e8, e13, ← hm]
      refine ⟨fun x => ?_, fun x => ⟨by rw [hS_sI, hS_sI, mdq_0 HM], goes (Decidable.not_not.mp x)⟩⟩
      rw [if_neg x] at x1'
      refine ih (i + 1) N _ _ 0 (by omega) S2 Q2 od1n ho2 (fun j => by rw [f2.2.2.2.2.1 (m + 36) (by omega)]; exact h36 j) (Or.inl rfl) (fun _ => x1') (fun y => absurd y (by decide))
