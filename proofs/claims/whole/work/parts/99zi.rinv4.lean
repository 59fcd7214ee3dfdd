theorem mstep_inv {t : Nat → Int32} {n : Nat} {σ σ' : MS} (H : mInv σ) (hp : σ.1 ≤ n) (h : mstep t n σ = .inr σ') : mInv σ' := by
  have hin := mstep_in h
  obtain ⟨p, st, pile, pa, cl, su, s⟩ := σ
  have hq : sk t n p < n := tkK_lt hin.2
  have hE := tkE_gt (t := t) hq
  have hs : p ≤ sk t n p := ru_ge
  have hp : p ≤ n := hp
  have i1 := H.2.1.1
  have H0 := H
  unfold mstep at h
  simp only at h
  split at h
  · rename_i c0
    subst c0
    split at h
    · rename_i c
      split at h
      · cases h
      rename_i c12
      cases h
      obtain ⟨⟨A, G, B, e, hA, hB, hd, hG, hB0, hA0⟩, ⟨i1, i2, i3, i4⟩, i5, ⟨N, i6, i7⟩, ⟨j1, j2, j3, j4⟩, j5, j6, j7⟩ := H
      have a0 := hA0 (Or.inl rfl)
      have b0 := hB0 (by omega)
      have g0 := hG.2 (by omega)
      have s0 := j1 rfl
      have u0 := j2 (by omega)
      subst a0 b0 g0 s0 u0
      have e : pile = [] := e
      subst e
      refine ⟨⟨[], [], [], rfl, Or.inl rfl, trivial, by decide, ⟨fun z => by omega, fun _ => rfl⟩, fun _ => rfl, fun z => rfl⟩, ⟨by omega, i2, i3, fun _ => by omega⟩, by omega, ⟨N, by omega, ?_⟩, ⟨fun z => rfl, fun _ => rfl, fun _ => rfl, fun z => by omega⟩, j5, j6, j7⟩
      rw [if_neg (by omega)] at i7
      rw [if_pos (by omega)]
      omega
    · cases h
  rename_i c0
  split at h
  · rename_i c
    refine mval_inv H ?_ h hp
    omega
  rename_i c135
  split at h
  · rename_i c7
    subst c7
    split at h
    · rename_i c
      split at h
      · cases h
      rename_i c10
      cases h
      obtain ⟨⟨A, G, B, e, hA, hB, hd, hG, hB0, hA0⟩, ⟨i1, i2, i3, i4⟩, i5, ⟨N, i6, i7⟩, ⟨j1, j2, j3, j4⟩, j5, j6, j7⟩ := H
      have a0 := hA0 (by omega)
      have g0 := hG.2 (by omega)
      subst a0 g0
      have e : pile = B := e
      subst e
      have y := j3 (by omega)
      have hK : (if tkK t n (sk t n p) = 3 then 12 else 9) = 12 ∨ (if tkK t n (sk t n p) = 3 then 12 else 9) = 9 := by split <;> simp
      have key : ∀ k, (k = 12 ∨ k = 9) → pOk 7 (k :: pile) ∧ tys s [] = some (tyS 7 (k :: pile)) := fun k hk => by
        refine ⟨⟨[], [], k :: pile, rfl, Or.inl rfl, ⟨by omega, hB⟩, ?_, ⟨fun z => by omega, fun _ => rfl⟩, fun z => by omega, fun _ => rfl⟩, ?_⟩
        · rw [dpt_c, if_pos (by omega)]; omega
        · rw [y]
          rcases hk with rfl | rfl <;> rfl
      obtain ⟨k1, k2⟩ := key _ hK
      rw [if_pos (by omega)] at i7
      by_cases c3 : tkK t n (sk t n p) = 3
      · rw [if_pos c3] at k1 k2 ⊢
        refine ⟨k1, ⟨by omega, i2, i3, fun _ => i4 (by omega)⟩, by simp only [List.length_cons]; omega, ⟨N, by omega, ?_⟩, ⟨fun z => by omega, fun z => by omega, fun _ => k2, fun z => j4 (by omega)⟩, j5, j6, j7⟩
        rw [if_pos (by omega), brc_c, if_pos rfl]
        simp only [List.length_cons]
        omega
      · rw [if_neg c3] at k1 k2 ⊢
        have cw : isWd t n (sk t n p) 17 := c.resolve_right (fun z => c3 z.1)
        have ew := cw.2.1
        have l3 : (wd 17).length = 3 := rfl
        rw [l3] at ew
        refine ⟨k1, ⟨by omega, i2, i3, fun _ => i4 (by omega)⟩, by simp only [List.length_cons]; omega, ⟨N + 1, by omega, ?_⟩, ⟨fun z => by omega, fun z => by omega, fun _ => k2, fun z => j4 (by omega)⟩, j5, j6, j7⟩
        rw [if_pos (by omega), brc_c, if_neg (by decide)]
        simp only [List.length_cons]
        omega
    · exact mval_inv H (Or.inr (Or.inr (Or.inr ⟨rfl, rfl⟩))) h hp
  · exact mgo_inv H0 (by omega) h hp
def resOk (r : Int32 × List (List (Nat × Nat) × List (Nat × Nat))) : Prop := (r.1 = 0 ∧ ruOk r.2) ∨ (okF r.1 ∧ r.1 ≠ 0)
theorem res_rf {q c : Nat} {x : List (List (Nat × Nat) × List (Nat × Nat))} (hq : q ≤ 400) (hc : c < 8) : resOk (rfF 0 q c, x) := Or.inr ⟨okF_rf (Or.inl rfl) hq hc, rfF_ne (fa := 0) (q := q) (c := c) hq hc⟩
theorem mval_res {t : Nat → Int32} {n q beh pa : Nat} {pile : List Nat} {cl : List (List (Nat × Nat) × List (Nat × Nat))} {su s : List (Nat × Nat)} {r : Int32 × List (List (Nat × Nat) × List (Nat × Nat))} (hq : q ≤ 400) (h : mval t n q beh pile pa cl su s = .inl r) : resOk r := by
  unfold mval at h
  split at h
  · cases h; exact res_rf hq (by omega)
  · split at h
    · cases h; exact res_rf hq (by omega)
    · split at h
      · cases h; exact res_rf hq (by omega)
      · cases h
theorem mgo_res {t : Nat → Int32} {n p q st pa : Nat} {pile : List Nat} {cl : List (List (Nat × Nat) × List (Nat × Nat))} {su s : List (Nat × Nat)} {r : Int32 × List (List (Nat × Nat) × List (Nat × Nat))} (H : mInv (p, st, pile, pa, cl, su, s)) (hst : st = 2 ∨ st = 4 ∨ st = 6 ∨ st = 8) (hp : p ≤ 400) (hq : q ≤ 400) (h : mgo t n q st pile pa cl su s = .inl r) : resOk r := by
  unfold mgo at h
  split at h
  · cases h
  split at h
  · split at h
    · cases h; exact res_rf hq (by omega)
    · cases h
  split at h
  · cases h
  split at h
  · cases h
  split at h
  · cases h
  split at h
  · rename_i c
    split at h
    · cases h
      have f := fin_cl H c.2
      obtain ⟨f1, f3, f4⟩ := f
      have b0 : brc pile = 0 := by rw [← brc_rst (th := 0), f3]; rfl
      obtain ⟨-, ⟨i1, i2, i3, i4⟩, i5, ⟨N, i6, i7⟩, -, -, -, j7⟩ := H
      have i4 := i4 (by omega)
      rw [if_neg (show ¬ (st = 1 ∨ st = 3 ∨ st = 5 ∨ st = 7) by omega)] at i7
      refine Or.inl ⟨rfl, by simp, by simp; omega, by show (flK (cl ++ [if st = 2 then (s ++ emL 0 pile, []) else (su, s ++ emL 0 pile)])).length ≤ 260; omega, fun x hx => ?_⟩
      rw [List.mem_append] at hx
      rcases hx with hx | hx
      · exact j7 x hx
      · rw [List.mem_singleton] at hx
        rw [hx]
        exact f1
    · cases h
  · cases h; exact res_rf hq (by omega)
theorem mstep_res {t : Nat → Int32} {n : Nat} {σ : MS} {r : Int32 × List (List (Nat × Nat) × List (Nat × Nat))} (hn : n ≤ 400) (H : mInv σ) (hp : σ.1 ≤ n) (h : mstep t n σ = .inl r) : resOk r := by
  obtain ⟨p, st, pile, pa, cl, su, s⟩ := σ
  have hp : p ≤ n := hp
  have hq : sk t n p ≤ n := ru_le hp
  have i1 := H.2.1.1
  unfold mstep at h
  simp only at h
  split at h
  · split at h
    · split at h
      · cases h; exact res_rf (by omega) (by omega)
      · cases h
    · cases h; exact res_rf (by omega) (by omega)
  split at h
  · exact mval_res (by omega) h
  split at h
  · split at h
    · split at h
      · cases h; exact res_rf (by omega) (by omega)
      · cases h
    · exact mval_res (by omega) h
  · exact mgo_res H (by omega) (by omega) (by omega) h
theorem rnM_res {t : Nat → Int32} {n : Nat} (hn : n ≤ 400) : ∀ (w : Nat) (σ : MS), n - σ.1 ≤ w → mInv σ → σ.1 ≤ n → resOk (rnM t n σ)
  | 0, σ, hw, H, hp => by
    rw [rnM_eq hp]
    cases e : mstep t n σ with
    | inl r => exact mstep_res hn H hp e
    | inr σ' =>
      have := mstep_lt hp e
      omega
  | w + 1, σ, hw, H, hp => by
    rw [rnM_eq hp]
    cases e : mstep t n σ with
    | inl r => exact mstep_res hn H hp e
    | inr σ' =>
      have := mstep_lt hp e
      exact rnM_res hn w σ' (by omega) (mstep_inv H hp e) this.2
def s0M : MS := (0, 0, [], 0, [], [], [])
def rlF (tp : List Int32) : Int32 × List (List (Nat × Nat) × List (Nat × Nat)) := rnM (tpF tp) tp.length s0M
theorem rl_ok {tp : List Int32} (h : tp.length ≤ 400) : resOk (rlF tp) := rnM_res h _ s0M (Nat.le_refl _) inv_0 (Nat.zero_le _)
def oRule (rl : List (List (List (Nat × Nat) × List (Nat × Nat)))) (tp : List Int32) : Int32 × List (List (List (Nat × Nat) × List (Nat × Nat))) × List Int32 := if 6 ≤ rl.length then (-1, rl, tp) else if (rlF tp).1 = 0 then (nI rl.length, rl ++ [(rlF tp).2], []) else (-2 - (rlF tp).1, rl, [])
