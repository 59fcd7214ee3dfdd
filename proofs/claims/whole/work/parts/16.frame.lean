/-! what a call leaves as it was -/
def Fr' (h h' : AH) (S : Nat → Prop) : Prop := (∀ b, hS h' b = hS h b) ∧ (∀ b j, hR h' b j = hR h b j) ∧ hN h' = hN h ∧ hU h' = hU h ∧ (∀ b, ¬ S b → ∀ j, hI h' b j = hI h b j) ∧ (∀ b, ¬ S b → ∀ j, hL h' b j = hL h b j)
theorem Fr'.refl (h : AH) (S : Nat → Prop) : Fr' h h S := ⟨fun _ => rfl, fun _ _ => rfl, rfl, rfl, fun _ _ _ => rfl, fun _ _ _ => rfl⟩
theorem Fr'.trans {h h1 h2 : AH} {S : Nat → Prop} (a : Fr' h h1 S) (b : Fr' h1 h2 S) : Fr' h h2 S := ⟨fun x => (b.1 x).trans (a.1 x), fun x j => (b.2.1 x j).trans (a.2.1 x j), b.2.2.1.trans a.2.2.1, b.2.2.2.1.trans a.2.2.2.1, fun x hx j => (b.2.2.2.2.1 x hx j).trans (a.2.2.2.2.1 x hx j), fun x hx j => (b.2.2.2.2.2 x hx j).trans (a.2.2.2.2.2 x hx j)⟩
theorem Fr'.mono {h h1 : AH} {S T : Nat → Prop} (a : Fr' h h1 S) (hst : ∀ b, S b → T b) : Fr' h h1 T := ⟨a.1, a.2.1, a.2.2.1, a.2.2.2.1, fun x hx j => a.2.2.2.2.1 x (fun z => hx (hst x z)) j, fun x hx j => a.2.2.2.2.2 x (fun z => hx (hst x z)) j⟩
theorem Fr'.sI {h : AH} {a i : Nat} {x : Int32} {S : Nat → Prop} (hs : S a) : Fr' h (sI h a i x) S := ⟨fun _ => rfl, fun _ _ => rfl, rfl, rfl, fun b hb j => by rw [hI_sI, if_neg (show ¬ b = a from fun z => hb (by rw [z]; exact hs))], fun _ _ _ => rfl⟩
theorem Fr'.sL {h : AH} {a i : Nat} {x : Int64} {S : Nat → Prop} (hs : S a) : Fr' h (sL h a i x) S := ⟨fun _ => rfl, fun _ _ => rfl, rfl, rfl, fun _ _ _ => rfl, fun b hb j => by rw [hL_sL, if_neg (show ¬ b = a from fun z => hb (by rw [z]; exact hs))]⟩
theorem Fr'.cpI {h : AH} {a f b t n : Nat} {S : Nat → Prop} (hs : S b) : Fr' h (cpI h a f b t n) S := ⟨fun _ => rfl, fun _ _ => rfl, rfl, rfl, fun c hc j => by rw [hI_cpI, if_neg (show ¬ c = b from fun z => hc (by rw [z]; exact hs))], fun _ _ _ => rfl⟩
theorem HillAt.fr {h h' : AH} {a : Nat} {S : Nat → Prop} (H : HillAt h a) (f : Fr' h h' S) : HillAt h' a := by
  simp only [HillAt, f.1, f.2.1] at H ⊢; exact H
theorem MomAt.fr {h h' : AH} {a : Nat} {S : Nat → Prop} (H : MomAt h a) (f : Fr' h h' S) : MomAt h' a := by
  simp only [MomAt, f.1, f.2.1] at H ⊢; exact H
theorem CouAt.fr {h h' : AH} {a : Nat} {S : Nat → Prop} (H : CouAt h a) (f : Fr' h h' S) : CouAt h' a := by
  simp only [CouAt, f.1, f.2.1] at H ⊢; exact H
theorem nI_le_iff {a b : Nat} (ha : a < 2 ^ 31) (hb : b < 2 ^ 31) : (nI a ≤ nI b) = (a ≤ b) := propext (nI_leI ha hb)
/-! Arrays.fill -/
theorem fill_loop {d E1 E2 : Nat} {Q : Option Value → AH → Prop} (hd : 4 ≤ d) (a n : Nat) (x : Int32) (hn : n < 2 ^ 31) : ∀ (k i : Nat) (h : AH), i + k = n → hS h a = (1, n) → hN h = E1 → hU h = E2 → (∀ h', Fr' h h' (fun b => b = a) → (∀ j, hI h' a j = if i ≤ j ∧ j < n then x else hI h a j) → Q none h') → Reach d nJ7_fill_53178 (5, [.ref a, .int x, .int (nI i), .int (nI n)], []) h E1 E2 Q
  | 0, i, h, hi, hs, e1, e2, k => by
    refine wJ7_fill_53178_5 hd a x (nI i) (nI n) ⟨fun _ => ?_, fun z => absurd (nI_le (by omega) (by omega)) z⟩
    rw [rt_v]
    exact ⟨e1, e2, k h (Fr'.refl _ _) (fun j => by rw [if_neg (by omega)])⟩
  | m + 1, i, h, hi, hs, e1, e2, k => by
    refine wJ7_fill_53178_5 hd a x (nI i) (nI n) ⟨fun z => absurd z (nI_ge (by omega) hn), fun _ => ⟨by rw [hs], by rw [hs]; exact vp_in_nI (by omega) hn, ?_⟩⟩
    rw [lH_eq, nI_clamp (by omega), nI_1]
    refine fill_loop hd a n x hn m (i + 1) (sI h a i x) (by omega) hs e1 e2 (fun h' f g => k h' ((Fr'.sI (S := fun b => b = a) rfl).trans f) (fun j => ?_))
    rw [g j, hI_sI, if_pos rfl]
    by_cases c1 : j = i
    · subst c1
      rw [if_neg (by omega), if_pos rfl, if_pos (by omega)]
    · rw [if_neg c1]
      by_cases c2 : i + 1 ≤ j ∧ j < n
      · rw [if_pos c2, if_pos (by omega)]
      · rw [if_neg c2, if_neg (by omega)]
theorem sp_fill {d : Nat} {h : AH} {Q : Option Value → AH → Prop} (hd : 5 ≤ d) (a n : Nat) (x : Int32) (hs : hS h a = (1, n)) (hn : n < 2 ^ 31) (k : ∀ h', Fr' h h' (fun b => b = a) → (∀ j, hI h' a j = if j < n then x else hI h a j) → Q none h') : Calls d nJ7_fill_53178 [.ref a, .int x] h (hN h) (hU h) Q := by
  obtain ⟨e, rfl⟩ : ∃ e, d = e + 1 := ⟨d - 1, by omega⟩
  refine wJ7_fill_53178 (by omega) a x ⟨by simp [hs], by simp [hs], ?_⟩
  rw [hs]
  exact fill_loop (by omega) a n x hn n 0 h (by omega) hs rfl rfl (fun h' f g => k h' f (fun j => by rw [g j]; simp))
/-! a moment -/
theorem sp_beats {d : Nat} {h : AH} {Q : Option Value → AH → Prop} (hd : 5 ≤ d) (a r s : Nat) (p : Int32) (H : MomAt h a) (hr : r < 5) (hs : s < 5) (k : Q (some (.int (bI ((p - hI h (a + 2) r * hI h (a + 1) r) * hI h (a + 1) s < (p - hI h (a + 2) s * hI h (a + 1) s) * hI h (a + 1) r ∨ (p - hI h (a + 2) r * hI h (a + 1) r) * hI h (a + 1) s = (p - hI h (a + 2) s * hI h (a + 1) s) * hI h (a + 1) r ∧ r < s)))) h) : Calls d nX4_beats [.ref a, .int (nI r), .int (nI s), .int p] h (hN h) (hU h) Q := by
  obtain ⟨e, rfl⟩ : ∃ e, d = e + 1 := ⟨d - 1, by omega⟩
  obtain ⟨s0, r1, r2, r3, r4, r5, s1, s2, s3, s4, s5⟩ := H
  have hv : vp_in (nI r) 5 := vp_in_nI hr (by decide)
  have hw : vp_in (nI s) 5 := vp_in_nI hs (by decide)
  have hc : (nI r).toNatClampNeg = r := nI_clamp (by omega)
  have hc2 : (nI s).toNatClampNeg = s := nI_clamp (by omega)
  refine wX4_beats (by omega) a (nI r) (nI s) p ?_
  simp only [rt_i, rt_b0, rt_b1, rt_v, rt_l, rt_o, rt_a, rV_none, rI_some, rL_some, rR_some, rT_some, true_and, s0, r1, r2, s1, s2, hc, hc2, hv, hw, nI_le_iff (show s < 2 ^ 31 by omega) (show r < 2 ^ 31 by omega)]
  refine ⟨fun h1 => ?_, fun h1 => ⟨fun h2 => ?_, fun h2 => ⟨fun h3 => ?_, fun h3 => ?_⟩⟩⟩
  · rwa [bI_t (Or.inl h1)] at k
  · rwa [bI_f (fun z => z.elim h1 (fun z => h2 z.1))] at k
  · rwa [bI_f (fun z => z.elim h1 (fun z => absurd z.2 (by omega)))] at k
  · rwa [bI_t (Or.inr ⟨h2, by omega⟩)] at k
