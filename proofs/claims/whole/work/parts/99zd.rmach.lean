/-! the machine that reads a rule -/
abbrev MS : Type := Nat × Nat × List Nat × Nat × List (List (Nat × Nat) × List (Nat × Nat)) × List (Nat × Nat) × List (Nat × Nat)
abbrev MR : Type := Sum (Int32 × List (List (Nat × Nat) × List (Nat × Nat))) MS
def sgO (v : Int32) : Nat := if v = 43 then 2 else if v = 45 then 3 else if v = 42 then 13 else if v = 47 then 14 else if v = 37 then 15 else if v = 60 then 4 else if v = 316 then 5 else if v = 61 then 6 else if v = 318 then 7 else if v = 62 then 8 else 16
def tgO (k : Nat) : Nat := if k = 2 ∨ k = 3 then 5 else if k = 13 ∨ k = 14 ∨ k = 15 then 6 else if 4 ≤ k ∧ k ≤ 8 then 4 else if k = 9 then 3 else if k = 10 then 2 else if k = 11 then 1 else 0
def tkO (t : Nat → Int32) (n q : Nat) : Nat := if tkK t n q = 3 then sgO (tkV t n q) else if isWd t n q 15 then 10 else if isWd t n q 16 then 11 else 16
def popL (th : Nat) : List Nat → List Nat
  | [] => []
  | k :: r => if th < tgO k then k :: popL th r else []
def rstL (th : Nat) : List Nat → List Nat
  | [] => []
  | k :: r => if th < tgO k then rstL th r else k :: r
def emL (th : Nat) (l : List Nat) : List (Nat × Nat) := (popL th l).map (fun k => (k, 0))
def dpt : List Nat → Nat
  | [] => 0
  | k :: r => (if k = 9 ∨ k = 12 then 1 else 0) + dpt r
def brc : List Nat → Nat
  | [] => 0
  | k :: r => (if k = 12 then 1 else 0) + brc r
def mval (t : Nat → Int32) (n q beh : Nat) (pile : List Nat) (pa : Nat) (cl : List (List (Nat × Nat) × List (Nat × Nat))) (su s : List (Nat × Nat)) : MR :=
  if ¬ tkK t n q = 1 ∧ ¬ (tkK t n q = 2 ∧ 0 ≤ tkV t n q ∧ tkV t n q < 12) then .inl (rfF 0 q 0, [])
  else if tkV t n q < 0 then .inl (rfF 0 q 1, [])
  else if 60 ≤ pa then .inl (rfF 0 q 3, [])
  else .inr (tkE t n q, beh, pile, pa + 1, cl, su, s ++ [(if tkK t n q = 1 then 0 else 1, (tkV t n q).toNatClampNeg)])
def mgo (t : Nat → Int32) (n q st : Nat) (pile : List Nat) (pa : Nat) (cl : List (List (Nat × Nat) × List (Nat × Nat))) (su s : List (Nat × Nat)) : MR :=
  if 5 ≤ tgO (tkO t n q) ∧ st ≠ 8 then .inr (tkE t n q, st - 1, tkO t n q :: rstL (tgO (tkO t n q) - 1) pile, pa, cl, su, s ++ emL (tgO (tkO t n q) - 1) pile)
  else if tgO (tkO t n q) = 4 ∧ st = 4 then (if 60 ≤ pa then .inl (rfF 0 q 3, []) else .inr (tkE t n q, 5, tkO t n q :: rstL 3 pile, pa + 1, cl, su, s ++ emL 3 pile))
  else if (tkO t n q = 10 ∨ tkO t n q = 11) ∧ (st = 6 ∨ st = 8) then .inr (tkE t n q, 7, tkO t n q :: rstL (tgO (tkO t n q) - 1) pile, pa, cl, su, s ++ emL (tgO (tkO t n q) - 1) pile)
  else if isWd t n q 14 ∧ st = 2 then .inr (tkE t n q, 7, rstL 0 pile, pa, cl, s ++ emL 0 pile, [])
  else if (tkK t n q = 3 ∧ tkV t n q = 93) ∧ (st = 6 ∨ st = 8) ∧ 0 < brc pile then .inr (tkE t n q, 8, (rstL 0 pile).tail, pa, cl, su, s ++ emL 0 pile)
  else if (tkK t n q = 0 ∨ (tkK t n q = 3 ∧ tkV t n q = 59)) ∧ (((st = 6 ∨ st = 8) ∧ brc pile = 0) ∨ st = 2) then
    (if tkK t n q = 0 then .inl (0, cl ++ [if st = 2 then (s ++ emL 0 pile, []) else (su, s ++ emL 0 pile)]) else .inr (tkE t n q, 0, [], pa, cl ++ [if st = 2 then (s ++ emL 0 pile, []) else (su, s ++ emL 0 pile)], [], []))
  else .inl (rfF 0 q 0, [])
def mstep (t : Nat → Int32) (n : Nat) : MS → MR
  | (p, st, pile, pa, cl, su, s) =>
    if st = 0 then (if isWd t n (sk t n p) 13 then (if 12 ≤ cl.length then .inl (rfF 0 (sk t n p) 4, []) else .inr (tkE t n (sk t n p), 1, [], pa, cl, [], [])) else .inl (rfF 0 (sk t n p) 0, []))
    else if st = 1 ∨ st = 3 ∨ st = 5 then mval t n (sk t n p) (st + 1) pile pa cl su s
    else if st = 7 then (if isWd t n (sk t n p) 17 ∨ (tkK t n (sk t n p) = 3 ∧ tkV t n (sk t n p) = 91) then (if 10 ≤ dpt pile then .inl (rfF 0 (sk t n p) 2, []) else .inr (tkE t n (sk t n p), 7, (if tkK t n (sk t n p) = 3 then 12 else 9) :: pile, pa, cl, su, s)) else mval t n (sk t n p) 4 pile pa cl su s)
    else mgo t n (sk t n p) st pile pa cl su s
def runM (t : Nat → Int32) (n : Nat) : Nat → MS → Int32 × List (List (Nat × Nat) × List (Nat × Nat))
  | 0, _ => (0, [])
  | f + 1, σ => match mstep t n σ with
    | .inl r => r
    | .inr σ' => runM t n f σ'
def rnM (t : Nat → Int32) (n : Nat) (σ : MS) : Int32 × List (List (Nat × Nat) × List (Nat × Nat)) := runM t n (n - σ.1 + 1) σ
theorem tkK_lt {t : Nat → Int32} {n q : Nat} (h : ¬ tkK t n q = 0) : q < n := by
  by_cases c : n ≤ q
  · exact absurd (by unfold tkK; rw [if_pos c]) h
  · omega
theorem tkO_5 {t : Nat → Int32} {n q : Nat} (h : 4 ≤ tgO (tkO t n q)) : tkK t n q = 3 := by
  by_cases c : tkK t n q = 3
  · exact c
  · unfold tkO at h
    rw [if_neg c] at h
    split at h
    · exact absurd h (by decide)
    · split at h <;> exact absurd h (by decide)
theorem tkO_w {t : Nat → Int32} {n q : Nat} (h : tkO t n q = 10 ∨ tkO t n q = 11) : tkK t n q = 2 := by
  unfold tkO at h
  by_cases c : tkK t n q = 3
  · rw [if_pos c] at h
    unfold sgO at h
    rcases h with h | h <;> (repeat' split at h) <;> cases h
  · rw [if_neg c] at h
    split at h
    · rename_i w; exact w.1
    · split at h
      · rename_i w; exact w.1
      · rcases h with h | h <;> cases h
theorem mval_in {t : Nat → Int32} {n q beh pa : Nat} {pile : List Nat} {cl : List (List (Nat × Nat) × List (Nat × Nat))} {su s : List (Nat × Nat)} {σ : MS} (h : mval t n q beh pile pa cl su s = .inr σ) : σ.1 = tkE t n q ∧ ¬ tkK t n q = 0 := by
  unfold mval at h
  split at h
  · cases h
  · rename_i c
    split at h
    · cases h
    · split at h
      · cases h
      · cases h
        refine ⟨rfl, fun z => c ⟨by omega, fun y => by omega⟩⟩
theorem mgo_in {t : Nat → Int32} {n q st pa : Nat} {pile : List Nat} {cl : List (List (Nat × Nat) × List (Nat × Nat))} {su s : List (Nat × Nat)} {σ : MS} (h : mgo t n q st pile pa cl su s = .inr σ) : σ.1 = tkE t n q ∧ ¬ tkK t n q = 0 := by
  unfold mgo at h
  split at h
  · rename_i c
    cases h
    exact ⟨rfl, by rw [tkO_5 (by omega)]; decide⟩
  · split at h
    · rename_i c
      split at h
      · cases h
      · cases h
        exact ⟨rfl, by rw [tkO_5 (by omega)]; decide⟩
    · split at h
      · rename_i c
        cases h
        exact ⟨rfl, by rw [tkO_w c.1]; decide⟩
      · split at h
        · rename_i c
          cases h
          exact ⟨rfl, by rw [c.1.1]; decide⟩
        · split at h
          · rename_i c
            cases h
            exact ⟨rfl, by rw [c.1.1]; decide⟩
          · split at h
            · split at h
              · cases h
              · rename_i c
                cases h
                exact ⟨rfl, c⟩
            · cases h
theorem mstep_in {t : Nat → Int32} {n : Nat} {σ σ' : MS} (h : mstep t n σ = .inr σ') : σ'.1 = tkE t n (sk t n σ.1) ∧ ¬ tkK t n (sk t n σ.1) = 0 := by
  obtain ⟨p, st, pile, pa, cl, su, s⟩ := σ
  unfold mstep at h
  simp only at h ⊢
  split at h
  · split at h
    · rename_i c
      split at h
      · cases h
      · cases h
        exact ⟨rfl, by rw [c.1]; decide⟩
    · cases h
  · split at h
    · exact mval_in h
    · split at h
      · split at h
        · rename_i c
          split at h
          · cases h
          · cases h
            refine ⟨rfl, ?_⟩
            rcases c with c | c
            · rw [c.1]; decide
            · rw [c.1]; decide
        · exact mval_in h
      · exact mgo_in h
theorem mstep_lt {t : Nat → Int32} {n : Nat} {σ σ' : MS} (hp : σ.1 ≤ n) (h : mstep t n σ = .inr σ') : σ.1 < σ'.1 ∧ σ'.1 ≤ n := by
  obtain ⟨h1, h2⟩ := mstep_in h
  have hq := tkK_lt h2
  have hE := tkE_gt (t := t) hq
  have hs : σ.1 ≤ sk t n σ.1 := ru_ge
  omega
theorem runM_eq {t : Nat → Int32} {n : Nat} : ∀ (f g : Nat) (σ : MS), σ.1 ≤ n → n - σ.1 + 1 ≤ f → n - σ.1 + 1 ≤ g → runM t n f σ = runM t n g σ
  | 0, g, σ, hp, h1, h2 => by omega
  | f + 1, 0, σ, hp, h1, h2 => by omega
  | f + 1, g + 1, σ, hp, h1, h2 => by
    unfold runM
    cases e : mstep t n σ with
    | inl r => rfl
    | inr σ' =>
      have := mstep_lt hp e
      exact runM_eq f g σ' this.2 (by omega) (by omega)
theorem rnM_eq {t : Nat → Int32} {n : Nat} {σ : MS} (hp : σ.1 ≤ n) : rnM t n σ = match mstep t n σ with
    | .inl r => r
    | .inr σ' => rnM t n σ' := by
  have e0 : rnM t n σ = match mstep t n σ with
    | .inl r => r
    | .inr σ' => runM t n (n - σ.1) σ' := rfl
  rw [e0]
  cases e : mstep t n σ with
  | inl r => rfl
  | inr σ' =>
    have := mstep_lt hp e
    exact runM_eq _ _ σ' this.2 (by omega) (Nat.le_refl _)
theorem rnM_cg {t : Nat → Int32} {n : Nat} {σ τ : MS} (hp : σ.1 ≤ n) (hp' : τ.1 ≤ n) (h : mstep t n σ = mstep t n τ) : rnM t n σ = rnM t n τ := by
  rw [rnM_eq hp, rnM_eq hp', h]
theorem rnM_in {t : Nat → Int32} {n : Nat} {σ σ' : MS} (hp : σ.1 ≤ n) (h : mstep t n σ = .inr σ') : rnM t n σ = rnM t n σ' := by
  rw [rnM_eq hp, h]
theorem rnM_out {t : Nat → Int32} {n : Nat} {σ : MS} {r : Int32 × List (List (Nat × Nat) × List (Nat × Nat))} (hp : σ.1 ≤ n) (h : mstep t n σ = .inl r) : rnM t n σ = r := by
  rw [rnM_eq hp, h]
theorem emL_c {th k : Nat} {l : List Nat} (h : th < tgO k) : emL th (k :: l) = (k, 0) :: emL th l := by
  unfold emL
  simp only [popL, if_pos h, List.map_cons]
theorem rstL_c {th k : Nat} {l : List Nat} (h : th < tgO k) : rstL th (k :: l) = rstL th l := by
  simp only [rstL, if_pos h]
/-- what waits on top and is released by all that may come, may be taken at once -/
theorem mgo_fl {t : Nat → Int32} {n q st k pa : Nat} {pile : List Nat} {cl : List (List (Nat × Nat) × List (Nat × Nat))} {su s : List (Nat × Nat)} (hk : k ≠ 12) (h5 : st ≠ 8 → 5 ≤ tgO (tkO t n q) → tgO (tkO t n q) - 1 < tgO k) (h4 : st = 4 → 3 < tgO k) (h1 : (tkO t n q = 10 ∨ tkO t n q = 11) → tgO (tkO t n q) - 1 < tgO k) (h0 : 0 < tgO k) : mgo t n q st (k :: pile) pa cl su s = mgo t n q st pile pa cl su (s ++ [(k, 0)]) := by
  have ap : ∀ l : List (Nat × Nat), s ++ (k, 0) :: l = s ++ [(k, 0)] ++ l := fun l => by simp
  have br : brc (k :: pile) = brc pile := by simp [brc, hk]
  unfold mgo
  rw [br]
  by_cases c1 : 5 ≤ tgO (tkO t n q) ∧ st ≠ 8
  · rw [if_pos c1, if_pos c1, emL_c (h5 c1.2 c1.1), rstL_c (h5 c1.2 c1.1), ap]
  rw [if_neg c1, if_neg c1]
  by_cases c2 : tgO (tkO t n q) = 4 ∧ st = 4
  · rw [if_pos c2, if_pos c2, emL_c (h4 c2.2), rstL_c (h4 c2.2), ap]
  rw [if_neg c2, if_neg c2]
  by_cases c3 : (tkO t n q = 10 ∨ tkO t n q = 11) ∧ (st = 6 ∨ st = 8)
  · rw [if_pos c3, if_pos c3, emL_c (h1 c3.1), rstL_c (h1 c3.1), ap]
  rw [if_neg c3, if_neg c3, emL_c h0, rstL_c h0, ap]
