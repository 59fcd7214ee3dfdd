/-! purses as they are -/
theorem bt32 : ∀ s, s < 32 → ∀ r, r < 5 → decide (((nI s >>> (nI r &&& 31)) &&& 1) = 1) = s.testBit r := by decide +kernel
theorem bt_eq {s r : Nat} (hs : s < 32) (hr : r < 5) : ((((nI s : Int32) >>> (nI r &&& 31)) &&& 1) = 1) = (s.testBit r = true) := by
  have := bt32 s hs r hr
  rw [← this]
  simp
theorem sh5 : ∀ n, n ≤ 5 → (1 : Int32) <<< (nI n &&& 31) = nI (2 ^ n) := by
  intro n hn
  have : ∀ n, n < 6 → (1 : Int32) <<< (nI n &&& 31) = nI (2 ^ n) := by decide +kernel
  exact this n (by omega)
def popN (s : Nat) : Nat := s % 2 + s / 2 % 2 + s / 4 % 2 + s / 8 % 2 + s / 16 % 2
def bcX (x : Int32) : Int32 := (((((((x - (((Int32.toUInt32 x >>> (Int32.toUInt32 1 &&& Int32.toUInt32 31)).toInt32) &&& 1431655765)) &&& 858993459) + (((Int32.toUInt32 (x - (((Int32.toUInt32 x >>> (Int32.toUInt32 1 &&& Int32.toUInt32 31)).toInt32) &&& 1431655765)) >>> (Int32.toUInt32 2 &&& Int32.toUInt32 31)).toInt32) &&& 858993459)) + ((Int32.toUInt32 (((x - (((Int32.toUInt32 x >>> (Int32.toUInt32 1 &&& Int32.toUInt32 31)).toInt32) &&& 1431655765)) &&& 858993459) + (((Int32.toUInt32 (x - (((Int32.toUInt32 x >>> (Int32.toUInt32 1 &&& Int32.toUInt32 31)).toInt32) &&& 1431655765)) >>> (Int32.toUInt32 2 &&& Int32.toUInt32 31)).toInt32) &&& 858993459)) >>> (Int32.toUInt32 4 &&& Int32.toUInt32 31)).toInt32)) &&& 252645135) + ((Int32.toUInt32 (((((x - (((Int32.toUInt32 x >>> (Int32.toUInt32 1 &&& Int32.toUInt32 31)).toInt32) &&& 1431655765)) &&& 858993459) + (((Int32.toUInt32 (x - (((Int32.toUInt32 x >>> (Int32.toUInt32 1 &&& Int32.toUInt32 31)).toInt32) &&& 1431655765)) >>> (Int32.toUInt32 2 &&& Int32.toUInt32 31)).toInt32) &&& 858993459)) + ((Int32.toUInt32 (((x - (((Int32.toUInt32 x >>> (Int32.toUInt32 1 &&& Int32.toUInt32 31)).toInt32) &&& 1431655765)) &&& 858993459) + (((Int32.toUInt32 (x - (((Int32.toUInt32 x >>> (Int32.toUInt32 1 &&& Int32.toUInt32 31)).toInt32) &&& 1431655765)) >>> (Int32.toUInt32 2 &&& Int32.toUInt32 31)).toInt32) &&& 858993459)) >>> (Int32.toUInt32 4 &&& Int32.toUInt32 31)).toInt32)) &&& 252645135) >>> (Int32.toUInt32 8 &&& Int32.toUInt32 31)).toInt32)) + ((Int32.toUInt32 ((((((x - (((Int32.toUInt32 x >>> (Int32.toUInt32 1 &&& Int32.toUInt32 31)).toInt32) &&& 1431655765)) &&& 858993459) + (((Int32.toUInt32 (x - (((Int32.toUInt32 x >>> (Int32.toUInt32 1 &&& Int32.toUInt32 31)).toInt32) &&& 1431655765)) >>> (Int32.toUInt32 2 &&& Int32.toUInt32 31)).toInt32) &&& 858993459)) + ((Int32.toUInt32 (((x - (((Int32.toUInt32 x >>> (Int32.toUInt32 1 &&& Int32.toUInt32 31)).toInt32) &&& 1431655765)) &&& 858993459) + (((Int32.toUInt32 (x - (((Int32.toUInt32 x >>> (Int32.toUInt32 1 &&& Int32.toUInt32 31)).toInt32) &&& 1431655765)) >>> (Int32.toUInt32 2 &&& Int32.toUInt32 31)).toInt32) &&& 858993459)) >>> (Int32.toUInt32 4 &&& Int32.toUInt32 31)).toInt32)) &&& 252645135) + ((Int32.toUInt32 (((((x - (((Int32.toUInt32 x >>> (Int32.toUInt32 1 &&& Int32.toUInt32 31)).toInt32) &&& 1431655765)) &&& 858993459) + (((Int32.toUInt32 (x - (((Int32.toUInt32 x >>> (Int32.toUInt32 1 &&& Int32.toUInt32 31)).toInt32) &&& 1431655765)) >>> (Int32.toUInt32 2 &&& Int32.toUInt32 31)).toInt32) &&& 858993459)) + ((Int32.toUInt32 (((x - (((Int32.toUInt32 x >>> (Int32.toUInt32 1 &&& Int32.toUInt32 31)).toInt32) &&& 1431655765)) &&& 858993459) + (((Int32.toUInt32 (x - (((Int32.toUInt32 x >>> (Int32.toUInt32 1 &&& Int32.toUInt32 31)).toInt32) &&& 1431655765)) >>> (Int32.toUInt32 2 &&& Int32.toUInt32 31)).toInt32) &&& 858993459)) >>> (Int32.toUInt32 4 &&& Int32.toUInt32 31)).toInt32)) &&& 252645135) >>> (Int32.toUInt32 8 &&& Int32.toUInt32 31)).toInt32)) >>> (Int32.toUInt32 16 &&& Int32.toUInt32 31)).toInt32)) &&& 63
theorem bc32 : ∀ s, s < 32 → bcX (nI s) = nI (popN s) := by decide +kernel
theorem sp_bitCount {d : Nat} {h : AH} {Q : Option Value → AH → Prop} (hd : 5 ≤ d) (s : Nat) (hs : s < 32) (k : Q (some (.int (nI (popN s)))) h) : Calls d nJ6_bitCount_0f7a4 [.int (nI s)] h (hN h) (hU h) Q := by
  obtain ⟨e, rfl⟩ : ∃ e, d = e + 1 := ⟨d - 1, by omega⟩
  refine wJ6_bitCount_0f7a4 (by omega) (nI s) ?_
  rw [rt_i]
  refine ⟨rfl, rfl, ?_⟩
  have := bc32 s hs
  unfold bcX at this
  rw [this]
  exact k
def tgF (f : Nat → Int32) (s : Nat) : Nat → Int32
  | 0 => 0
  | n + 1 => if s.testBit n = true then tgF f s n + f n else tgF f s n
theorem tgF_cg {f g : Nat → Int32} {s : Nat} : ∀ {n : Nat}, (∀ j, j < n → f j = g j) → tgF f s n = tgF g s n
  | 0, _ => rfl
  | n + 1, h => by
    have ih := tgF_cg (s := s) (fun j hj => h j (Nat.lt_succ_of_lt hj))
    simp only [tgF, ih, h n (Nat.lt_succ_self n)]
theorem tg_loop {d E1 E2 : Nat} {Q : Option Value → AH → Prop} {h : AH} (hd : 4 ≤ d) (p nr s : Nat) (f : Nat → Int32) (hp : hS h p = (1, 5)) (hr : nr ≤ 5) (hs : s < 32) (hf : ∀ j, j < nr → hI h p j = f j) (e1 : hN h = E1) (e2 : hU h = E2) (k : Q (some (.int (tgF f s nr))) h) : ∀ n i : Nat, i + n = nr → Reach d nX5_together (5, [.ref p, .int (nI nr), .int (nI s), .int (tgF f s i), .int (nI i)], []) h E1 E2 Q
  | 0, i, hi => by
    have : i = nr := by omega
    subst this
    refine wX5_together_5 hd p (nI i) (nI s) _ (nI i) ?_
    simp only [rt_i, rt_b0, rt_b1, rt_v, rt_l, rt_o, rt_a, rV_none, rI_some, rL_some, rR_some, rT_some, rt_bI, hIf_sL, hIf_sR, hS_sI, hS_sL, hS_sR, hS_cpI, hR_sI, hR_sL, hR_cpI, hL_sI, hL_sR, hL_cpI, hI_sL, hI_sR, hN_sI, hN_sL, hN_sR, hN_cpI, hU_sI, hU_sL, hU_sR, hU_cpI, tn0, tn1, tn2, tn3, tn4, tn5, tn6, tn7, tn8, tn9, tn10, tn11, tn12, tn13, tn14, tn15, tn16, tn17, tn18, tn19, tn20, tn21, tn22, tn23, tn24, tn25, tn26, tn27, tn28, tn29, tn30, tn31, tn32, tn33, tn34, tn35, tn36, tn37, tn38, tn39, tn40, tn41, tn42, tn43, tn44, tn45, tn46, tn47, tn48, tn49, tn50, tn51, tn52, tn53, tn54, tn55, tn56, tn57, tn58, tn59, tn60, lH_eq, true_and, and_true, nI_le_iff (show i < 2 ^ 31 by omega) (show i < 2 ^ 31 by omega)]
    exact ⟨fun _ => ⟨e1, e2, k⟩, fun z => absurd (Nat.le_refl i) z⟩
  | n + 1, i, hi => by
    have ih := tg_loop hd p nr s f hp hr hs hf e1 e2 k n (i + 1) (by omega)
    refine wX5_together_5 hd p (nI nr) (nI s) _ (nI i) ?_
    simp only [rt_i, rt_b0, rt_b1, rt_v, rt_l, rt_o, rt_a, rV_none, rI_some, rL_some, rR_some, rT_some, rt_bI, hIf_sL, hIf_sR, hS_sI, hS_sL, hS_sR, hS_cpI, hR_sI, hR_sL, hR_cpI, hL_sI, hL_sR, hL_cpI, hI_sL, hI_sR, hN_sI, hN_sL, hN_sR, hN_cpI, hU_sI, hU_sL, hU_sR, hU_cpI, tn0, tn1, tn2, tn3, tn4, tn5, tn6, tn7, tn8, tn9, tn10, tn11, tn12, tn13, tn14, tn15, tn16, tn17, tn18, tn19, tn20, tn21, tn22, tn23, tn24, tn25, tn26, tn27, tn28, tn29, tn30, tn31, tn32, tn33, tn34, tn35, tn36, tn37, tn38, tn39, tn40, tn41, tn42, tn43, tn44, tn45, tn46, tn47, tn48, tn49, tn50, tn51, tn52, tn53, tn54, tn55, tn56, tn57, tn58, tn59, tn60, lH_eq, true_and, and_true, nI_le_iff (show nr < 2 ^ 31 by omega) (show i < 2 ^ 31 by omega), bt_eq hs (show i < 5 by omega), hp, vp_in_nI (show i < 5 by omega) (show 5 < 2 ^ 31 by omega), nI_clamp (show i < 2 ^ 31 by omega), hf i (by omega), nI_1]
    simp only [tgF] at ih
    refine ⟨fun z => absurd z (by omega), fun _ => ⟨fun z => ?_, fun z => ?_⟩⟩
    · rwa [if_neg z] at ih
    · rwa [if_pos z] at ih
theorem sp_together {d : Nat} {h : AH} {Q : Option Value → AH → Prop} (hd : 5 ≤ d) (p nr s : Nat) (f : Nat → Int32) (hp : hS h p = (1, 5)) (hr : nr ≤ 5) (hs : s < 32) (hf : ∀ j, j < nr → hI h p j = f j) (k : Q (some (.int (tgF f s nr))) h) : Calls d nX5_together [.ref p, .int (nI nr), .int (nI s)] h (hN h) (hU h) Q := by
  obtain ⟨e, rfl⟩ : ∃ e, d = e + 1 := ⟨d - 1, by omega⟩
  exact wX5_together (by omega) p (nI nr) (nI s) (tg_loop (by omega) p nr s f hp hr hs hf rfl rfl k nr 0 (by omega))
/-- the most rings that lie one in another, set by set -/
def mxF (T : Nat → Nat) (s : Nat) : Nat → Nat
  | 0 => 0
  | r + 1 => if s.testBit r = true then (if mxF T s r < T (s - 2 ^ r) then T (s - 2 ^ r) else mxF T s r) else mxF T s r
def dpT (f : Nat → Int32) (nr : Nat) : Nat → Nat → Nat
  | 0 => fun _ => 0
  | n + 1 => fun s => if s = n then (if n = 0 then 0 else mxF (dpT f nr n) n nr + (if tgF f n nr = 0 then 1 else 0)) else dpT f nr n s
theorem dpT_up (f : Nat → Int32) (nr s : Nat) : ∀ n, s < n → dpT f nr n s = dpT f nr (s + 1) s
  | 0, h => absurd h (Nat.not_lt_zero s)
  | n + 1, h => by
    by_cases e : s = n
    · rw [e]
    · have := dpT_up f nr s n (by omega)
      rw [← this]
      simp [dpT, e]
theorem tb_le {s r : Nat} (h : s.testBit r = true) : 2 ^ r ≤ s := Nat.ge_two_pow_of_testBit h
theorem dpT_le (f : Nat → Int32) (nr : Nat) : ∀ n s, dpT f nr n s ≤ s
  | 0, s => Nat.zero_le s
  | n + 1, s => by
    simp only [dpT]
    split
    · rename_i e
      subst e
      split
      · omega
      · rename_i h0
        have hm : ∀ r, mxF (dpT f nr s) s r ≤ s - 1 := by
          intro r
          induction r with
          | zero => exact Nat.zero_le _
          | succ r ih =>
            simp only [mxF]
            have hp : 0 < 2 ^ r := Nat.two_pow_pos r
            have hd := dpT_le f nr s (s - 2 ^ r)
            split
            · split <;> omega
            · exact ih
        have := hm nr
        split <;> omega
    · exact dpT_le f nr n s
theorem fg33 {d E1 E2 : Nat} {Q : Option Value → AH → Prop} {h : AH} (hd : 5 ≤ d) (g p nr s : Nat) (f : Nat → Int32) (sets : Int32) (h0 : hS h g = (15, 1)) (h1 : hR h g 0 = g + 1) (h2 : hS h (g + 1) = (1, 32)) (hp : hS h p = (1, 5)) (hr : nr ≤ 5) (hs : s < 32) (hs0 : 0 < s) (hf : ∀ j, j < nr → hI h p j = f j) (T : Nat → Nat) (hT : ∀ j, j < s → hI h (g + 1) j = nI (T j)) (hT2 : ∀ j, j < s → T j ≤ 31) (e1 : hN h = E1) (e2 : hU h = E2) (k : Reach d nX5_fewestGoes (21, [.ref g, .ref p, .int (nI nr), .int sets, .int (nI s + 1), .float 0, .float 0], []) (sI h (g + 1) s (nI (mxF T s nr + (if tgF f s nr = 0 then 1 else 0)))) E1 E2 Q) : ∀ n i : Nat, i + n = nr → Reach d nX5_fewestGoes (33, [.ref g, .ref p, .int (nI nr), .int sets, .int (nI s), .int (nI (mxF T s i)), .int (nI i)], []) h E1 E2 Q
  | 0, i, hi => by
    have : i = nr := by omega
    subst this
    refine wX5_fewestGoes_33 (by omega) g p (nI i) sets (nI s) _ (nI i) ?_
    simp only [rt_i, rt_b0, rt_b1, rt_v, rt_l, rt_o, rt_a, rV_none, rI_some, rL_some, rR_some, rT_some, rt_bI, hIf_sL, hIf_sR, hS_sI, hS_sL, hS_sR, hS_cpI, hR_sI, hR_sL, hR_cpI, hL_sI, hL_sR, hL_cpI, hI_sL, hI_sR, hN_sI, hN_sL, hN_sR, hN_cpI, hU_sI, hU_sL, hU_sR, hU_cpI, tn0, tn1, tn2, tn3, tn4, tn5, tn6, tn7, tn8, tn9, tn10, tn11, tn12, tn13, tn14, tn15, tn16, tn17, tn18, tn19, tn20, tn21, tn22, tn23, tn24, tn25, tn26, tn27, tn28, tn29, tn30, tn31, tn32, tn33, tn34, tn35, tn36, tn37, tn38, tn39, tn40, tn41, tn42, tn43, tn44, tn45, tn46, tn47, tn48, tn49, tn50, tn51, tn52, tn53, tn54, tn55, tn56, tn57, tn58, tn59, tn60, lH_eq, true_and, and_true, nI_le_iff (show i < 2 ^ 31 by omega) (show i < 2 ^ 31 by omega), h0, h1]
    refine ⟨fun _ => ?_, fun z => absurd (Nat.le_refl i) z⟩
    refine sp_together (by omega) p i s f hp hr hs hf ?_
    simp only [rI_some, rt_i, rt_b0, rt_b1, rt_v, rt_l, rt_o, rt_a, rV_none, rI_some, rL_some, rR_some, rT_some, rt_bI, hIf_sL, hIf_sR, hS_sI, hS_sL, hS_sR, hS_cpI, hR_sI, hR_sL, hR_cpI, hL_sI, hL_sR, hL_cpI, hI_sL, hI_sR, hN_sI, hN_sL, hN_sR, hN_cpI, hU_sI, hU_sL, hU_sR, hU_cpI, tn0, tn1, tn2, tn3, tn4, tn5, tn6, tn7, tn8, tn9, tn10, tn11, tn12, tn13, tn14, tn15, tn16, tn17, tn18, tn19, tn20, tn21, tn22, tn23, tn24, tn25, tn26, tn27, tn28, tn29, tn30, tn31, tn32, tn33, tn34, tn35, tn36, tn37, tn38, tn39, tn40, tn41, tn42, tn43, tn44, tn45, tn46, tn47, tn48, tn49, tn50, tn51, tn52, tn53, tn54, tn55, tn56, tn57, tn58, tn59, tn60, lH_eq, true_and, and_true, h2, vp_in_nI (show s < 32 by omega) (show 32 < 2 ^ 31 by omega), nI_clamp (show s < 2 ^ 31 by omega)]
    refine ⟨fun z => ?_, fun z => ?_⟩
    · rwa [if_neg z] at k
    · rw [if_pos z, ← nI_1] at k
      exact k
  | n + 1, i, hi => by
    have ih := fg33 hd g p nr s f sets h0 h1 h2 hp hr hs hs0 hf T hT hT2 e1 e2 k n (i + 1) (by omega)
    refine wX5_fewestGoes_33 (by omega) g p (nI nr) sets (nI s) _ (nI i) ?_
    simp only [rt_i, rt_b0, rt_b1, rt_v, rt_l, rt_o, rt_a, rV_none, rI_some, rL_some, rR_some, rT_some, rt_bI, hIf_sL, hIf_sR, hS_sI, hS_sL, hS_sR, hS_cpI, hR_sI, hR_sL, hR_cpI, hL_sI, hL_sR, hL_cpI, hI_sL, hI_sR, hN_sI, hN_sL, hN_sR, hN_cpI, hU_sI, hU_sL, hU_sR, hU_cpI, tn0, tn1, tn2, tn3, tn4, tn5, tn6, tn7, tn8, tn9, tn10, tn11, tn12, tn13, tn14, tn15, tn16, tn17, tn18, tn19, tn20, tn21, tn22, tn23, tn24, tn25, tn26, tn27, tn28, tn29, tn30, tn31, tn32, tn33, tn34, tn35, tn36, tn37, tn38, tn39, tn40, tn41, tn42, tn43, tn44, tn45, tn46, tn47, tn48, tn49, tn50, tn51, tn52, tn53, tn54, tn55, tn56, tn57, tn58, tn59, tn60, lH_eq, true_and, and_true, nI_le_iff (show nr < 2 ^ 31 by omega) (show i < 2 ^ 31 by omega), bt_eq hs (show i < 5 by omega), h0, h1, h2, sh5 i (by omega), nI_1]
    simp only [mxF] at ih
    have hpw : 0 < 2 ^ i := Nat.two_pow_pos i
    have hm31 : ∀ r, mxF T s r ≤ 31 := by
      intro r
      induction r with
      | zero => exact Nat.zero_le _
      | succ r ihr =>
        simp only [mxF]
        have hp2 : 0 < 2 ^ r := Nat.two_pow_pos r
        split
        · split
          · exact hT2 _ (by omega)
          · exact ihr
        · exact ihr
    refine ⟨fun z => absurd z (by omega), fun _ => ⟨fun z => ?_, fun z => ?_⟩⟩
    · rwa [if_neg z] at ih
    · have hle := tb_le z
      have es : nI s - nI (2 ^ i) = nI (s - 2 ^ i) := pk_sub hle
      rw [if_pos z] at ih
      have hlt := hT2 (s - 2 ^ i) (by omega)
      have hm := hm31 i
      rw [es, nI_clamp (by omega), hT _ (by omega)]
      refine ⟨vp_in_nI (by omega) (by decide), ?_⟩
      simp only [nI_lt_iff (show mxF T s i < 2 ^ 31 by omega) (show T (s - 2 ^ i) < 2 ^ 31 by omega)]
      by_cases c : mxF T s i < T (s - 2 ^ i)
      · rw [if_pos c] at ih ⊢; exact ih
      · rw [if_neg c] at ih ⊢; exact ih
theorem fg21 {d E1 E2 : Nat} {Q : Option Value → AH → Prop} (hd : 5 ≤ d) (g p nr : Nat) (f : Nat → Int32) (hr : nr ≤ 5) (hpg : p ≠ g + 1) (h00 : AH) (e1 : hN h00 = E1) (e2 : hU h00 = E2) (k : ∀ h', Fr' h00 h' (fun c => c = g + 1) → hI h' (g + 1) 0 = 0 → Q (some (.int (nI nr - nI (dpT f nr (2 ^ nr) (2 ^ nr - 1))))) h') : ∀ (n s : Nat) (h : AH), s + n = 2 ^ nr → 1 ≤ s → Fr' h00 h (fun c => c = g + 1) → hS h g = (15, 1) → hR h g 0 = g + 1 → hS h (g + 1) = (1, 32) → hS h p = (1, 5) → (∀ j, j < nr → hI h p j = f j) → (∀ j, j < s → hI h (g + 1) j = nI (dpT f nr s j)) → Reach d nX5_fewestGoes (21, [.ref g, .ref p, .int (nI nr), .int (nI (2 ^ nr)), .int (nI s), .float 0, .float 0], []) h E1 E2 Q
  | 0, s, h, hs, hs1, fr, h0, h1, h2, hp, hf, hT => by
    have : s = 2 ^ nr := by omega
    subst this
    have hl : 2 ^ nr ≤ 2 ^ 5 := Nat.pow_le_pow_right (by decide) hr
    refine wX5_fewestGoes_21 (by omega) g p (nI nr) _ _ ?_
    have e3 : nI (2 ^ nr) - 1 = nI (2 ^ nr - 1) := pk_sub (b := 1) hs1
    simp only [rt_i, rt_b0, rt_b1, rt_v, rt_l, rt_o, rt_a, rV_none, rI_some, rL_some, rR_some, rT_some, rt_bI, hIf_sL, hIf_sR, hS_sI, hS_sL, hS_sR, hS_cpI, hR_sI, hR_sL, hR_cpI, hL_sI, hL_sR, hL_cpI, hI_sL, hI_sR, hN_sI, hN_sL, hN_sR, hN_cpI, hU_sI, hU_sL, hU_sR, hU_cpI, tn0, tn1, tn2, tn3, tn4, tn5, tn6, tn7, tn8, tn9, tn10, tn11, tn12, tn13, tn14, tn15, tn16, tn17, tn18, tn19, tn20, tn21, tn22, tn23, tn24, tn25, tn26, tn27, tn28, tn29, tn30, tn31, tn32, tn33, tn34, tn35, tn36, tn37, tn38, tn39, tn40, tn41, tn42, tn43, tn44, tn45, tn46, tn47, tn48, tn49, tn50, tn51, tn52, tn53, tn54, tn55, tn56, tn57, tn58, tn59, tn60, lH_eq, true_and, and_true, nI_le_iff (show 2 ^ nr < 2 ^ 31 by omega) (show 2 ^ nr < 2 ^ 31 by omega), h0, h1, h2, e3, vp_in_nI (show 2 ^ nr - 1 < 32 by omega) (show 32 < 2 ^ 31 by decide), nI_clamp (show 2 ^ nr - 1 < 2 ^ 31 by omega), hT (2 ^ nr - 1) (by omega)]
    refine ⟨fun _ => ⟨fr.2.2.1.trans e1, fr.2.2.2.1.trans e2, k h fr ?_⟩, fun z => absurd (Nat.le_refl _) z⟩
    have := hT 0 (by omega)
    rw [this, dpT_up f nr 0 _ (by omega)]
    rfl
  | n + 1, s, h, hs, hs1, fr, h0, h1, h2, hp, hf, hT => by
    have hl : 2 ^ nr ≤ 2 ^ 5 := Nat.pow_le_pow_right (by decide) hr
    refine wX5_fewestGoes_21 (by omega) g p (nI nr) _ _ ?_
    simp only [rt_i, rt_b0, rt_b1, rt_v, rt_l, rt_o, rt_a, rV_none, rI_some, rL_some, rR_some, rT_some, rt_bI, hIf_sL, hIf_sR, hS_sI, hS_sL, hS_sR, hS_cpI, hR_sI, hR_sL, hR_cpI, hL_sI, hL_sR, hL_cpI, hI_sL, hI_sR, hN_sI, hN_sL, hN_sR, hN_cpI, hU_sI, hU_sL, hU_sR, hU_cpI, tn0, tn1, tn2, tn3, tn4, tn5, tn6, tn7, tn8, tn9, tn10, tn11, tn12, tn13, tn14, tn15, tn16, tn17, tn18, tn19, tn20, tn21, tn22, tn23, tn24, tn25, tn26, tn27, tn28, tn29, tn30, tn31, tn32, tn33, tn34, tn35, tn36, tn37, tn38, tn39, tn40, tn41, tn42, tn43, tn44, tn45, tn46, tn47, tn48, tn49, tn50, tn51, tn52, tn53, tn54, tn55, tn56, tn57, tn58, tn59, tn60, lH_eq, true_and, and_true, nI_le_iff (show 2 ^ nr < 2 ^ 31 by omega) (show s < 2 ^ 31 by omega)]
    refine ⟨fun z => absurd z (by omega), fun _ => ?_⟩
    have ed : dpT f nr (s + 1) s = mxF (dpT f nr s) s nr + (if tgF f s nr = 0 then 1 else 0) := by
      simp [dpT, show ¬ s = 0 by omega]
    refine fg33 hd g p nr s f (nI (2 ^ nr)) h0 h1 h2 hp hr (by omega) (by omega) hf (dpT f nr s) hT (fun j hj => by have := dpT_le f nr s j; omega) (fr.2.2.1.trans e1) (fr.2.2.2.1.trans e2) ?_ nr 0 (by omega)
    rw [← ed, nI_1]
    refine fg21 hd g p nr f hr hpg h00 e1 e2 k n (s + 1) _ (by omega) (by omega) (fr.trans (Fr'.sI rfl)) h0 h1 h2 hp (fun j hj => by rw [hI_sI, if_neg hpg]; exact hf j hj) (fun j hj => ?_)
    rw [hI_sI, if_pos rfl]
    by_cases c : j = s
    · rw [if_pos c, c]
    · rw [if_neg c, hT j (by omega)]
      simp [dpT, c]
theorem sp_fewestGoes {d : Nat} {h : AH} {Q : Option Value → AH → Prop} (hd : 6 ≤ d) (g p nr : Nat) (f : Nat → Int32) (hr : nr ≤ 5) (hpg : p ≠ g + 1) (h0 : hS h g = (15, 1)) (h1 : hR h g 0 = g + 1) (h2 : hS h (g + 1) = (1, 32)) (hz : hI h (g + 1) 0 = 0) (hp : hS h p = (1, 5)) (hf : ∀ j, j < nr → hI h p j = f j) (k : ∀ h', Fr' h h' (fun c => c = g + 1) → hI h' (g + 1) 0 = 0 → Q (some (.int (if tgF f (2 ^ nr - 1) nr = 0 then nI nr - nI (dpT f nr (2 ^ nr) (2 ^ nr - 1)) else -2))) h') : Calls d nX5_fewestGoes [.ref g, .ref p, .int (nI nr)] h (hN h) (hU h) Q := by
  obtain ⟨e, rfl⟩ : ∃ e, d = e + 1 := ⟨d - 1, by omega⟩
  have hl : 2 ^ nr ≤ 2 ^ 5 := Nat.pow_le_pow_right (by decide) hr
  have hl1 : 1 ≤ 2 ^ nr := Nat.one_le_two_pow
  refine wX5_fewestGoes (by omega) g p (nI nr) ?_
  have e3 : nI (2 ^ nr) - 1 = nI (2 ^ nr - 1) := pk_sub (b := 1) hl1
  rw [sh5 nr hr, e3]
  refine sp_together (by omega) p nr (2 ^ nr - 1) f hp hr (by omega) hf ?_
  simp only [rI_some, rt_i, rt_b0, rt_b1, rt_v, rt_l, rt_o, rt_a, rV_none, rI_some, rL_some, rR_some, rT_some, rt_bI, hIf_sL, hIf_sR, hS_sI, hS_sL, hS_sR, hS_cpI, hR_sI, hR_sL, hR_cpI, hL_sI, hL_sR, hL_cpI, hI_sL, hI_sR, hN_sI, hN_sL, hN_sR, hN_cpI, hU_sI, hU_sL, hU_sR, hU_cpI, tn0, tn1, tn2, tn3, tn4, tn5, tn6, tn7, tn8, tn9, tn10, tn11, tn12, tn13, tn14, tn15, tn16, tn17, tn18, tn19, tn20, tn21, tn22, tn23, tn24, tn25, tn26, tn27, tn28, tn29, tn30, tn31, tn32, tn33, tn34, tn35, tn36, tn37, tn38, tn39, tn40, tn41, tn42, tn43, tn44, tn45, tn46, tn47, tn48, tn49, tn50, tn51, tn52, tn53, tn54, tn55, tn56, tn57, tn58, tn59, tn60, lH_eq, true_and, and_true]
  refine ⟨fun z => ?_, fun z => ?_⟩
  · refine fg21 (by omega) g p nr f hr hpg h rfl rfl (fun h' fr q => ?_) (2 ^ nr - 1) 1 h (by omega) (Nat.le_refl 1) (Fr'.refl _ _) h0 h1 h2 hp hf (fun j hj => ?_)
    · have := k h' fr q
      rwa [if_pos z] at this
    · have : j = 0 := by omega
      subst this
      rw [hz]; rfl
  · have := k h (Fr'.refl _ _) hz
    rwa [if_neg z] at this
