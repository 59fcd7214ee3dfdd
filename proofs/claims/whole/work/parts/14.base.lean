/-! reading behind writing, for simp -/
theorem hS_sI (h : AH) (a i : Nat) (x : Int32) (b : Nat) : hS (sI h a i x) b = hS h b := rfl
theorem hS_sL (h : AH) (a i : Nat) (x : Int64) (b : Nat) : hS (sL h a i x) b = hS h b := rfl
theorem hS_sR (h : AH) (a i : Nat) (x : Nat) (b : Nat) : hS (sR h a i x) b = hS h b := rfl
theorem hS_cpI (h : AH) (a f b t n c : Nat) : hS (cpI h a f b t n) c = hS h c := rfl
theorem hR_sI (h : AH) (a i : Nat) (x : Int32) (b j : Nat) : hR (sI h a i x) b j = hR h b j := rfl
theorem hR_sL (h : AH) (a i : Nat) (x : Int64) (b j : Nat) : hR (sL h a i x) b j = hR h b j := rfl
theorem hR_cpI (h : AH) (a f b t n c j : Nat) : hR (cpI h a f b t n) c j = hR h c j := rfl
theorem hL_sI (h : AH) (a i : Nat) (x : Int32) (b j : Nat) : hL (sI h a i x) b j = hL h b j := rfl
theorem hL_sR (h : AH) (a i : Nat) (x : Nat) (b j : Nat) : hL (sR h a i x) b j = hL h b j := rfl
theorem hL_cpI (h : AH) (a f b t n c j : Nat) : hL (cpI h a f b t n) c j = hL h c j := rfl
theorem hI_sL (h : AH) (a i : Nat) (x : Int64) (b j : Nat) : hI (sL h a i x) b j = hI h b j := rfl
theorem hI_sR (h : AH) (a i : Nat) (x : Nat) (b j : Nat) : hI (sR h a i x) b j = hI h b j := rfl
theorem hN_sI (h : AH) (a i : Nat) (x : Int32) : hN (sI h a i x) = hN h := rfl
theorem hN_sL (h : AH) (a i : Nat) (x : Int64) : hN (sL h a i x) = hN h := rfl
theorem hN_sR (h : AH) (a i : Nat) (x : Nat) : hN (sR h a i x) = hN h := rfl
theorem hN_cpI (h : AH) (a f b t n : Nat) : hN (cpI h a f b t n) = hN h := rfl
theorem hU_sI (h : AH) (a i : Nat) (x : Int32) : hU (sI h a i x) = hU h := rfl
theorem hU_sL (h : AH) (a i : Nat) (x : Int64) : hU (sL h a i x) = hU h := rfl
theorem hU_sR (h : AH) (a i : Nat) (x : Nat) : hU (sR h a i x) = hU h := rfl
theorem hU_cpI (h : AH) (a f b t n : Nat) : hU (cpI h a f b t n) = hU h := rfl
theorem hI_sI (h : AH) (a i : Nat) (x : Int32) (b j : Nat) : hI (sI h a i x) b j = if b = a then (if j = i then x else hI h b j) else hI h b j := rfl
theorem hL_sL (h : AH) (a i : Nat) (x : Int64) (b j : Nat) : hL (sL h a i x) b j = if b = a then (if j = i then x else hL h b j) else hL h b j := rfl
theorem hR_sR (h : AH) (a i : Nat) (x : Nat) (b j : Nat) : hR (sR h a i x) b j = if b = a then (if j = i then x else hR h b j) else hR h b j := rfl
theorem hI_cpI (h : AH) (a f b t n c j : Nat) : hI (cpI h a f b t n) c j = if c = b then va_cpy (hI h a) (hI h b) f t n j else hI h c j := by
  by_cases e : c = b
  · subst e; simp [hI, cpI, up1]; rfl
  · simp [hI, cpI, up1, e]
/-! returns and answers -/
theorem rt_i (E1 E2 : Nat) (Q : Option Value → AH → Prop) (x : Int32) (h : AH) : RtOf (some .int) E1 E2 Q (some (.int x)) h = (hN h = E1 ∧ hU h = E2 ∧ Q (some (.int x)) h) := rfl
theorem rt_l (E1 E2 : Nat) (Q : Option Value → AH → Prop) (x : Int64) (h : AH) : RtOf (some .long) E1 E2 Q (some (.long x)) h = (hN h = E1 ∧ hU h = E2 ∧ Q (some (.long x)) h) := rfl
theorem rt_v (E1 E2 : Nat) (Q : Option Value → AH → Prop) (h : AH) : RtOf none E1 E2 Q none h = (hN h = E1 ∧ hU h = E2 ∧ Q none h) := rfl
theorem rt_o (E1 E2 : Nat) (Q : Option Value → AH → Prop) (n : String) (x : Nat) (h : AH) : RtOf (some (.object n)) E1 E2 Q (some (.ref x)) h = (hN h = E1 ∧ hU h = E2 ∧ Q (some (.ref x)) h) := rfl
theorem rt_t (E1 E2 : Nat) (Q : Option Value → AH → Prop) (n : String) (x : Nat) (h : AH) : RtOf (some (.object n)) E1 E2 Q (some (.retAddr x)) h = (hN h = E1 ∧ hU h = E2 ∧ Q (some (.retAddr x)) h) := rfl
theorem rt_a (E1 E2 : Nat) (Q : Option Value → AH → Prop) (n : FieldType) (x : Nat) (h : AH) : RtOf (some (.array n)) E1 E2 Q (some (.ref x)) h = (hN h = E1 ∧ hU h = E2 ∧ Q (some (.ref x)) h) := rfl
theorem rt_b (E1 E2 : Nat) (Q : Option Value → AH → Prop) (x : Int32) (h : AH) : RtOf (some .boolean) E1 E2 Q (some (.int x)) h = (hN h = E1 ∧ hU h = E2 ∧ (x = 0 ∨ x = 1) ∧ Q (some (.int x)) h) := rfl
theorem rt_b0 (E1 E2 : Nat) (Q : Option Value → AH → Prop) (h : AH) : RtOf (some .boolean) E1 E2 Q (some (.int 0)) h = (hN h = E1 ∧ hU h = E2 ∧ Q (some (.int 0)) h) := by simp [rt_b]
theorem rt_b1 (E1 E2 : Nat) (Q : Option Value → AH → Prop) (h : AH) : RtOf (some .boolean) E1 E2 Q (some (.int 1)) h = (hN h = E1 ∧ hU h = E2 ∧ Q (some (.int 1)) h) := by simp [rt_b]
theorem rV_none (k : Prop) : rV none k = k := rfl
theorem rI_some (x : Int32) (k : Int32 → Prop) : rI (some (.int x)) k = k x := rfl
theorem rL_some (x : Int64) (k : Int64 → Prop) : rL (some (.long x)) k = k x := rfl
theorem rR_some (x : Nat) (k : Nat → Prop) : rR (some (.ref x)) k = k x := rfl
theorem rT_some (x : Nat) (k : Nat → Prop) : rT (some (.retAddr x)) k = k x := rfl
theorem lH_eq (e : AH) (K : AH → Prop) : lH e K = K e := propext ⟨lH_use, fun k h' e' => e' ▸ k⟩
theorem Calls.mono {d y : Nat} {as : List Value} {h : AH} {E1 E2 : Nat} {Q Q' : Option Value → AH → Prop} (k : Calls d y as h E1 E2 Q) (hq : ∀ r h', Q r h' → Q' r h') : Calls d y as h E1 E2 Q' := by
  obtain ⟨q, h1, h2⟩ := k
  exact ⟨q, h1, h2.mono hq⟩
/-- a truth value of the machine -/
def bI (c : Prop) [Decidable c] : Int32 := if c then 1 else 0
theorem tn0 : Int32.toNatClampNeg 0 = 0 := rfl
theorem tn1 : Int32.toNatClampNeg 1 = 1 := rfl
theorem tn2 : Int32.toNatClampNeg 2 = 2 := rfl
theorem tn3 : Int32.toNatClampNeg 3 = 3 := rfl
theorem tn4 : Int32.toNatClampNeg 4 = 4 := rfl
theorem tn5 : Int32.toNatClampNeg 5 = 5 := rfl
theorem tn6 : Int32.toNatClampNeg 6 = 6 := rfl
theorem tn7 : Int32.toNatClampNeg 7 = 7 := rfl
theorem tn8 : Int32.toNatClampNeg 8 = 8 := rfl
theorem tn9 : Int32.toNatClampNeg 9 = 9 := rfl
theorem tn10 : Int32.toNatClampNeg 10 = 10 := rfl
theorem tn11 : Int32.toNatClampNeg 11 = 11 := rfl
theorem tn12 : Int32.toNatClampNeg 12 = 12 := rfl
theorem tn13 : Int32.toNatClampNeg 13 = 13 := rfl
theorem tn14 : Int32.toNatClampNeg 14 = 14 := rfl
theorem tn15 : Int32.toNatClampNeg 15 = 15 := rfl
theorem tn16 : Int32.toNatClampNeg 16 = 16 := rfl
theorem tn17 : Int32.toNatClampNeg 17 = 17 := rfl
theorem tn18 : Int32.toNatClampNeg 18 = 18 := rfl
theorem tn19 : Int32.toNatClampNeg 19 = 19 := rfl
theorem tn20 : Int32.toNatClampNeg 20 = 20 := rfl
theorem tn21 : Int32.toNatClampNeg 21 = 21 := rfl
theorem tn22 : Int32.toNatClampNeg 22 = 22 := rfl
theorem tn23 : Int32.toNatClampNeg 23 = 23 := rfl
theorem tn24 : Int32.toNatClampNeg 24 = 24 := rfl
theorem tn25 : Int32.toNatClampNeg 25 = 25 := rfl
theorem tn26 : Int32.toNatClampNeg 26 = 26 := rfl
theorem tn27 : Int32.toNatClampNeg 27 = 27 := rfl
theorem tn28 : Int32.toNatClampNeg 28 = 28 := rfl
theorem tn29 : Int32.toNatClampNeg 29 = 29 := rfl
theorem tn30 : Int32.toNatClampNeg 30 = 30 := rfl
theorem tn31 : Int32.toNatClampNeg 31 = 31 := rfl
theorem tn32 : Int32.toNatClampNeg 32 = 32 := rfl
theorem tn33 : Int32.toNatClampNeg 33 = 33 := rfl
theorem tn34 : Int32.toNatClampNeg 34 = 34 := rfl
theorem tn35 : Int32.toNatClampNeg 35 = 35 := rfl
theorem tn36 : Int32.toNatClampNeg 36 = 36 := rfl
theorem tn37 : Int32.toNatClampNeg 37 = 37 := rfl
theorem tn38 : Int32.toNatClampNeg 38 = 38 := rfl
theorem tn39 : Int32.toNatClampNeg 39 = 39 := rfl
theorem tn40 : Int32.toNatClampNeg 40 = 40 := rfl
theorem tn41 : Int32.toNatClampNeg 41 = 41 := rfl
theorem tn42 : Int32.toNatClampNeg 42 = 42 := rfl
theorem tn43 : Int32.toNatClampNeg 43 = 43 := rfl
theorem tn44 : Int32.toNatClampNeg 44 = 44 := rfl
theorem tn45 : Int32.toNatClampNeg 45 = 45 := rfl
theorem tn46 : Int32.toNatClampNeg 46 = 46 := rfl
theorem tn47 : Int32.toNatClampNeg 47 = 47 := rfl
theorem tn48 : Int32.toNatClampNeg 48 = 48 := rfl
theorem tn49 : Int32.toNatClampNeg 49 = 49 := rfl
theorem tn50 : Int32.toNatClampNeg 50 = 50 := rfl
theorem tn51 : Int32.toNatClampNeg 51 = 51 := rfl
theorem tn52 : Int32.toNatClampNeg 52 = 52 := rfl
theorem tn53 : Int32.toNatClampNeg 53 = 53 := rfl
theorem tn54 : Int32.toNatClampNeg 54 = 54 := rfl
theorem tn55 : Int32.toNatClampNeg 55 = 55 := rfl
theorem tn56 : Int32.toNatClampNeg 56 = 56 := rfl
theorem tn57 : Int32.toNatClampNeg 57 = 57 := rfl
theorem tn58 : Int32.toNatClampNeg 58 = 58 := rfl
theorem tn59 : Int32.toNatClampNeg 59 = 59 := rfl
theorem tn60 : Int32.toNatClampNeg 60 = 60 := rfl
