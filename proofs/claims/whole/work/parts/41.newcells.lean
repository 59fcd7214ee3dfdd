/-! new cells; what a call that makes cells leaves as it was -/
theorem hS_nC (h : AH) (k n b : Nat) : hS (nC h k n) b = if b = hN h then (k, n) else hS h b := rfl
theorem hI_nC (h : AH) (k n b j : Nat) : hI (nC h k n) b j = if b = hN h then 0 else hI h b j := by
  by_cases e : b = hN h
  · simp [hI, nC, up1, e]
  · simp [hI, nC, up1, e]
theorem hL_nC (h : AH) (k n b j : Nat) : hL (nC h k n) b j = if b = hN h then 0 else hL h b j := by
  by_cases e : b = hN h
  · simp [hL, nC, up1, e]
  · simp [hL, nC, up1, e]
theorem hR_nC (h : AH) (k n b j : Nat) : hR (nC h k n) b j = if b = hN h then 0 else hR h b j := by
  by_cases e : b = hN h
  · simp [hR, nC, up1, e]
  · simp [hR, nC, up1, e]
def wfA (h : AH) : Prop := ∀ b, (hS h b).1 ≠ 0 → b < hN h
def FrG (h h' : AH) (S : Nat → Prop) : Prop := hN h ≤ hN h' ∧ (∀ b, b < hN h → hS h' b = hS h b) ∧ (∀ b, b < hN h → ¬ S b → (∀ j, hR h' b j = hR h b j) ∧ (∀ j, hI h' b j = hI h b j) ∧ (∀ j, hL h' b j = hL h b j)) ∧ (wfA h → wfA h')
theorem FrG.refl (h : AH) (S : Nat → Prop) : FrG h h S := ⟨Nat.le_refl _, fun _ _ => rfl, fun _ _ _ => ⟨fun _ => rfl, fun _ => rfl, fun _ => rfl⟩, id⟩
theorem FrG.of {h h' : AH} {S : Nat → Prop} (f : Fr' h h' S) : FrG h h' S := ⟨by rw [f.2.2.1]; exact Nat.le_refl _, fun b _ => f.1 b, fun b _ hb => ⟨f.2.1 b, f.2.2.2.2.1 b hb, f.2.2.2.2.2 b hb⟩, fun w b hb => by rw [f.2.2.1]; rw [f.1] at hb; exact w b hb⟩
theorem FrG.trans {h h1 h2 : AH} {S T : Nat → Prop} (a : FrG h h1 S) (b : FrG h1 h2 T) (hs : ∀ c, c < hN h → T c → S c) : FrG h h2 S := by
  refine ⟨Nat.le_trans a.1 b.1, fun c hc => (b.2.1 c (Nat.lt_of_lt_of_le hc a.1)).trans (a.2.1 c hc), fun c hc hn => ?_, fun w => b.2.2.2 (a.2.2.2 w)⟩
  have p := a.2.2.1 c hc hn
  have q := b.2.2.1 c (Nat.lt_of_lt_of_le hc a.1) (fun z => hn (hs c hc z))
  exact ⟨fun j => (q.1 j).trans (p.1 j), fun j => (q.2.1 j).trans (p.2.1 j), fun j => (q.2.2 j).trans (p.2.2 j)⟩
theorem FrG.mono {h h1 : AH} {S T : Nat → Prop} (a : FrG h h1 S) (hs : ∀ c, c < hN h → S c → T c) : FrG h h1 T := ⟨a.1, a.2.1, fun c hc hn => a.2.2.1 c hc (fun z => hn (hs c hc z)), a.2.2.2⟩
theorem frg_nC {h h1 : AH} {k n : Nat} {S : Nat → Prop} (f : FrG h h1 S) : FrG h (nC h1 k n) S := by
  refine f.trans (T := fun _ => False) ⟨by rw [hN_nC]; omega, fun b hb => by rw [hS_nC, if_neg (by omega)], fun b hb _ => ⟨fun j => by rw [hR_nC, if_neg (by omega)], fun j => by rw [hI_nC, if_neg (by omega)], fun j => by rw [hL_nC, if_neg (by omega)]⟩, fun w b hb => ?_⟩ (fun _ _ z => z.elim)
  rw [hS_nC] at hb
  rw [hN_nC]
  split at hb
  · omega
  · have := w b hb; omega
theorem frg_sR {h h1 : AH} {a i x : Nat} {S : Nat → Prop} (f : FrG h h1 S) (hs : a < hN h → S a) : FrG h (sR h1 a i x) S := f.trans (T := fun b => b = a) ⟨Nat.le_refl _, fun _ _ => rfl, fun b _ hb => ⟨fun j => by rw [hR_sR, if_neg hb], fun _ => rfl, fun _ => rfl⟩, fun w => w⟩ (fun c hc z => by subst z; exact hs hc)
theorem frg_sI {h h1 : AH} {a i : Nat} {x : Int32} {S : Nat → Prop} (f : FrG h h1 S) (hs : a < hN h → S a) : FrG h (sI h1 a i x) S := f.trans (T := fun b => b = a) (FrG.of (Fr'.sI rfl)) (fun c hc z => by subst z; exact hs hc)
theorem frg_cpI {h h1 : AH} {a u b v n : Nat} {S : Nat → Prop} (f : FrG h h1 S) (hs : b < hN h → S b) : FrG h (cpI h1 a u b v n) S := f.trans (T := fun c => c = b) (FrG.of (Fr'.cpI rfl)) (fun c hc z => by subst z; exact hs hc)
set_option maxHeartbeats 4000000 in
theorem sp_Minit {d : Nat} {h : AH} {Q : Option Value → AH → Prop} (hd : 5 ≤ d) (a : Nat) (hs : hS h a = (14, 6)) (hn : hN h = a + 1) (k : ∀ h', FrG h h' (fun b => b = a) → hN h' = a + 6 → hU h' = hU h + 27 → MomAt h' a → hI h' a 0 = 0 → (∀ i j, a + 1 ≤ i → i ≤ a + 5 → hI h' i j = 0) → Q none h') : Calls d nX4_init [.ref a] h (a + 6) (hU h + 27) Q := by
  obtain ⟨e, rfl⟩ : ∃ e, d = e + 1 := ⟨d - 1, by omega⟩
  refine wX4_init (E1 := a + 6) (E2 := hU h + 27) (by omega) (by omega) (by omega) a ?_
  simp only [rt_i, rt_b0, rt_b1, rt_v, rt_l, rt_o, rt_a, rV_none, rI_some, rL_some, rR_some, rT_some, rt_bI, hIf_sL, hIf_sR, hS_sI, hS_sL, hS_sR, hS_cpI, hR_sI, hR_sL, hR_cpI, hL_sI, hL_sR, hL_cpI, hI_sL, hI_sR, hN_sI, hN_sL, hN_sR, hN_cpI, hU_sI, hU_sL, hU_sR, hU_cpI, tn0, tn1, tn2, tn3, tn4, tn5, tn6, tn7, tn8, tn9, tn10, tn11, tn12, tn13, tn14, tn15, tn16, tn17, tn18, tn19, tn20, tn21, tn22, tn23, tn24, tn25, tn26, tn27, tn28, tn29, tn30, tn31, tn32, tn33, tn34, tn35, tn36, tn37, tn38, tn39, tn40, tn41, tn42, tn43, tn44, tn45, tn46, tn47, tn48, tn49, tn50, tn51, tn52, tn53, tn54, tn55, tn56, tn57, tn58, tn59, tn60, lH_eq, true_and, and_true, hs, hn, hN_nC, hU_nC, hS_nC, show ¬ (5 : Int32) < 0 by decide, show ¬ (6 : Int32) < 0 by decide, not_false_eq_true, show ¬ a = a + 1 by omega, show ¬ a = a + 1 + 1 by omega, show ¬ a = a + 1 + 1 + 1 by omega, show ¬ a = a + 1 + 1 + 1 + 1 by omega, show ¬ a = a + 1 + 1 + 1 + 1 + 1 by omega, if_false]
  repeat refine ⟨by first | decide | omega, ?_⟩
  refine k _ ?_ ?_ ?_ ?_ ?_ ?_
  · refine frg_sR (frg_nC (frg_sR (frg_nC (frg_sR (frg_nC (frg_sR (frg_nC (frg_sR (frg_nC (frg_sI (FrG.refl _ _) ?_)) ?_)) ?_)) ?_)) ?_)) ?_ <;> exact fun _ => rfl
  · simp only [hS_sI, hS_sL, hS_sR, hS_cpI, hR_sI, hR_sL, hR_cpI, hL_sI, hL_sR, hL_cpI, hI_sL, hI_sR, hN_sI, hN_sL, hN_sR, hN_cpI, hU_sI, hU_sL, hU_sR, hU_cpI, hN_nC, hn]
  · simp only [hS_sI, hS_sL, hS_sR, hS_cpI, hR_sI, hR_sL, hR_cpI, hL_sI, hL_sR, hL_cpI, hI_sL, hI_sR, hN_sI, hN_sL, hN_sR, hN_cpI, hU_sI, hU_sL, hU_sR, hU_cpI, hU_nC]
  · simp only [MomAt, hS_sI, hS_sL, hS_sR, hS_cpI, hR_sI, hR_sL, hR_cpI, hL_sI, hL_sR, hL_cpI, hI_sL, hI_sR, hN_sI, hN_sL, hN_sR, hN_cpI, hU_sI, hU_sL, hU_sR, hU_cpI, hS_nC, hR_sR, hR_nC, hN_nC, hn, hs]
    grind
  · simp only [hS_sI, hS_sL, hS_sR, hS_cpI, hR_sI, hR_sL, hR_cpI, hL_sI, hL_sR, hL_cpI, hI_sL, hI_sR, hN_sI, hN_sL, hN_sR, hN_cpI, hU_sI, hU_sL, hU_sR, hU_cpI, hI_sI, hI_nC, hN_nC, hn]
    grind
  · intro i j h1 h2
    simp only [hS_sI, hS_sL, hS_sR, hS_cpI, hR_sI, hR_sL, hR_cpI, hL_sI, hL_sR, hL_cpI, hI_sL, hI_sR, hN_sI, hN_sL, hN_sR, hN_cpI, hU_sI, hU_sL, hU_sR, hU_cpI, hI_sI, hI_nC, hN_nC, hn]
    grind
