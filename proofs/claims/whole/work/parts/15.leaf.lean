/-! leaves -/
theorem bI0 (c : Prop) [Decidable c] : (bI c = 0) = ¬ c := by
  unfold bI
  by_cases h : c <;> simp [h]
theorem bI1 (c : Prop) [Decidable c] : (bI c = 1) = c := by
  unfold bI
  by_cases h : c <;> simp [h]
theorem bI_t {c : Prop} [Decidable c] (h : c) : bI c = 1 := by simp [bI, h]
theorem bI_f {c : Prop} [Decidable c] (h : ¬ c) : bI c = 0 := by simp [bI, h]
theorem bI_01 (c : Prop) [Decidable c] : bI c = 0 ∨ bI c = 1 := by
  unfold bI
  by_cases h : c <;> simp [h]
theorem i32_le_of {a b : Int32} (h : ¬ a < b) : b ≤ a := Int32.not_lt.mp h
theorem i32_lt_of {a b : Int32} (h : ¬ a ≤ b) : b < a := Int32.not_le.mp h
/-- the rest of a division -/
def irm (x y : Int32) : Int32 := x - x / y * y
theorem irm_eq (x y : Int32) : x - x / y * y = irm x y := rfl
theorem sp_isWithin {d : Nat} {h : AH} {Q : Option Value → AH → Prop} (hd : 5 ≤ d) (a b c : Int32) (k : Q (some (.int (bI (b ≤ a ∧ a ≤ c)))) h) : Calls d nX11_isWithin [.int a, .int b, .int c] h (hN h) (hU h) Q := by
  obtain ⟨e, rfl⟩ : ∃ e, d = e + 1 := ⟨d - 1, by omega⟩
  refine wX11_isWithin (by omega) a b c ?_
  simp only [rt_i, rt_b0, rt_b1, rt_v, rt_l, rt_o, rt_a, rV_none, rI_some, rL_some, rR_some, rT_some, true_and]
  refine ⟨fun h1 => ?_, fun h1 => ⟨fun h2 => ?_, fun h2 => ?_⟩⟩
  · rwa [bI_f (fun z => absurd z.1 (Int32.not_le.mpr h1))] at k
  · rwa [bI_f (fun z => absurd z.2 (Int32.not_le.mpr h2))] at k
  · rwa [bI_t ⟨i32_le_of h1, i32_le_of h2⟩] at k
/-! cells of the kinds that the program makes: their parts lie behind them -/
def HillAt (h : AH) (a : Nat) : Prop := hS h a = (13, 8) ∧ hR h a 3 = a + 1 ∧ hR h a 4 = a + 2 ∧ hR h a 5 = a + 3 ∧ hR h a 6 = a + 4 ∧ hR h a 7 = a + 5 ∧ hS h (a + 1) = (1, 5) ∧ hS h (a + 2) = (1, 5) ∧ hS h (a + 3) = (1, 6) ∧ hS h (a + 4) = (1, 6) ∧ hS h (a + 5) = (1, 6)
def MomAt (h : AH) (a : Nat) : Prop := hS h a = (14, 6) ∧ hR h a 1 = a + 1 ∧ hR h a 2 = a + 2 ∧ hR h a 3 = a + 3 ∧ hR h a 4 = a + 4 ∧ hR h a 5 = a + 5 ∧ hS h (a + 1) = (1, 5) ∧ hS h (a + 2) = (1, 5) ∧ hS h (a + 3) = (1, 5) ∧ hS h (a + 4) = (1, 6) ∧ hS h (a + 5) = (1, 6)
def CouAt (h : AH) (a : Nat) : Prop := hS h a = (11, 4) ∧ hR h a 0 = a + 1 ∧ hR h a 1 = a + 2 ∧ hR h a 2 = a + 3 ∧ hR h a 3 = a + 4 ∧ hS h (a + 1) = (1, 5) ∧ hS h (a + 2) = (1, 5) ∧ hS h (a + 3) = (4, 12) ∧ hS h (a + 4) = (4, 60)
/-- whether a ware is there -/
def thr (ev : Nat → Int32) (day : Int32) (w : Nat) : Prop := 0 < ev w ∧ irm day (ev w) = 0
theorem sp_isThere {d : Nat} {h : AH} {Q : Option Value → AH → Prop} (hd : 5 ≤ d) (a w : Nat) (day : Int32) (H : HillAt h a) (hw : w < 6) (k : Q (some (.int (bI (0 < hI h (a + 5) w ∧ irm day (hI h (a + 5) w) = 0)))) h) : Calls d nX3_isThere [.ref a, .int (nI w), .int day] h (hN h) (hU h) Q := by
  obtain ⟨e, rfl⟩ : ∃ e, d = e + 1 := ⟨d - 1, by omega⟩
  obtain ⟨s0, r3, r4, r5, r6, r7, s1, s2, s3, s4, s5⟩ := H
  have hv : vp_in (nI w) 6 := vp_in_nI hw (by decide)
  have hc : (nI w).toNatClampNeg = w := nI_clamp (by omega)
  refine wX3_isThere (by omega) a (nI w) day ?_
  simp only [rt_i, rt_b0, rt_b1, rt_v, rt_l, rt_o, rt_a, rV_none, rI_some, rL_some, rR_some, rT_some, true_and, s0, r7, s5, hc, hv, irm_eq]
  refine ⟨fun h1 => ?_, fun h1 => ⟨?_, fun h2 => ?_, fun h2 => ?_⟩⟩
  · rwa [bI_f (fun z => absurd z.1 (Int32.not_lt.mpr h1))] at k
  · intro z
    rw [z] at h1
    exact h1 (by decide)
  · rwa [bI_f (fun z => h2 z.2)] at k
  · rwa [bI_t ⟨i32_lt_of h1, h2⟩] at k
