/-! what holds of the machine that reads a rule -/
def hdT : List Nat → Nat
  | [] => 0
  | k :: _ => tgO k
def aOk (A : List Nat) : Prop := A = [] ∨ (∃ a, tgO a = 5 ∧ A = [a]) ∨ (∃ b, tgO b = 6 ∧ A = [b]) ∨ (∃ b a, tgO b = 6 ∧ tgO a = 5 ∧ A = [b, a])
def bOk : List Nat → Prop
  | [] => True
  | k :: r => (k = 9 ∨ k = 12 ∨ (k = 10 ∧ hdT r ≤ 1) ∨ (k = 11 ∧ hdT r = 0)) ∧ bOk r
theorem tg_5 {k : Nat} (h : tgO k = 5) : k = 2 ∨ k = 3 := by
  unfold tgO at h
  split at h
  · assumption
  · split at h
    · cases h
    · split at h
      · cases h
      · split at h
        · cases h
        · split at h
          · cases h
          · split at h <;> cases h
theorem tg_6 {k : Nat} (h : tgO k = 6) : k = 13 ∨ k = 14 ∨ k = 15 := by
  unfold tgO at h
  split at h
  · cases h
  · split at h
    · assumption
    · split at h
      · cases h
      · split at h
        · cases h
        · split at h
          · cases h
          · split at h <;> cases h
theorem tg_4 {k : Nat} (h : tgO k = 4) : 4 ≤ k ∧ k ≤ 8 := by
  unfold tgO at h
  split at h
  · cases h
  · split at h
    · cases h
    · split at h
      · assumption
      · split at h
        · cases h
        · split at h
          · cases h
          · split at h <;> cases h
theorem tg_bnd (k : Nat) : tgO k ≤ 6 := by
  unfold tgO
  split
  · omega
  · split
    · omega
    · split
      · omega
      · split
        · omega
        · split
          · omega
          · split <;> omega
theorem bOk.tg {k : Nat} {r : List Nat} (h : bOk (k :: r)) : tgO k ≤ 3 ∧ (k = 9 ∨ k = 10 ∨ k = 11 ∨ k = 12) := by
  have : k = 9 ∨ k = 10 ∨ k = 11 ∨ k = 12 := by
    rcases h.1 with h | h | h | h <;> omega
  refine ⟨?_, this⟩
  rcases this with rfl | rfl | rfl | rfl <;> decide
theorem bOk.hd {r : List Nat} (h : bOk r) : hdT r ≤ 3 := by
  cases r with
  | nil => exact Nat.zero_le _
  | cons k r => exact h.tg.1
theorem bOk.rst {th : Nat} : ∀ {l : List Nat}, bOk l → bOk (rstL th l) ∧ hdT (rstL th l) ≤ th
  | [], _ => ⟨trivial, Nat.zero_le _⟩
  | k :: r, h => by
    unfold rstL
    split
    · exact bOk.rst h.2
    · exact ⟨h, by show tgO k ≤ th; omega⟩
theorem bLen : ∀ {l : List Nat}, bOk l → l.length ≤ 3 * dpt l + (if hdT l = 2 then 2 else if hdT l = 1 then 1 else 0)
  | [], _ => Nat.zero_le _
  | k :: r, h => by
    have ih := bLen h.2
    rw [dpt_c]
    simp only [List.length_cons]
    show r.length + 1 ≤ 3 * _ + (if tgO k = 2 then 2 else if tgO k = 1 then 1 else 0)
    rcases h.1 with rfl | rfl | ⟨rfl, h1⟩ | ⟨rfl, h1⟩
    · simp only [true_or, if_true]; split at ih <;> (try split at ih) <;> omega
    · simp only [or_true, if_true]; split at ih <;> (try split at ih) <;> omega
    · have e : tgO 10 = 2 := rfl
      simp only [e, if_true]
      split at ih
      · omega
      · split at ih <;> omega
    · have e : tgO 11 = 1 := rfl
      rw [e, if_neg (show ¬ (1 : Nat) = 2 by decide), if_pos rfl]
      split at ih
      · omega
      · split at ih <;> omega
theorem brc_rst {th : Nat} : ∀ {l : List Nat}, brc (rstL th l) = brc l
  | [] => rfl
  | k :: r => by
    unfold rstL
    split
    · rename_i c
      have : k ≠ 12 := fun z => by rw [z] at c; exact absurd c (Nat.not_lt_zero th)
      rw [brc_rst, brc_c, if_neg this, Nat.zero_add]
    · rfl
theorem dpt_rst {th : Nat} : ∀ {l : List Nat}, dpt (rstL th l) ≤ dpt l
  | [] => Nat.le_refl _
  | k :: r => by
    unfold rstL
    split
    · have := dpt_rst (th := th) (l := r)
      rw [dpt_c]
      omega
    · exact Nat.le_refl _
theorem rst_0 {l : List Nat} (h : bOk l) : (rstL 0 l = [] ∧ brc l = 0) ∨ ∃ l', rstL 0 l = 12 :: l' ∧ brc l = brc l' + 1 ∧ bOk l' ∧ dpt l' + 1 ≤ dpt l := by
  have q := h.rst (th := 0)
  have b := brc_rst (th := 0) (l := l)
  have dd := dpt_rst (th := 0) (l := l)
  cases e : rstL 0 l with
  | nil =>
    rw [e] at b
    exact Or.inl ⟨rfl, b.symm⟩
  | cons k l' =>
    rw [e] at q b dd
    have hk : k = 12 := by
      have h0 : tgO k = 0 := Nat.le_zero.mp q.2
      rcases q.1.tg.2 with rfl | rfl | rfl | rfl
      · exact absurd h0 (by decide)
      · exact absurd h0 (by decide)
      · exact absurd h0 (by decide)
      · rfl
    subst hk
    refine Or.inr ⟨l', rfl, ?_, q.1.2, ?_⟩
    · rw [← b, brc_c, if_pos rfl, Nat.add_comm]
    · rw [dpt_c, if_pos (Or.inr rfl)] at dd
      omega
theorem rst_ap {th : Nat} {Y : List Nat} : ∀ {X : List Nat}, (∀ k ∈ X, th < tgO k) → rstL th (X ++ Y) = rstL th Y ∧ emL th (X ++ Y) = X.map (fun k => (k, 0)) ++ emL th Y
  | [], _ => ⟨rfl, rfl⟩
  | k :: X, h => by
    have hk := h k (by simp)
    have ih := rst_ap (Y := Y) (X := X) (fun j hj => h j (by simp [hj]))
    rw [List.cons_append, rstL_c hk, emL_c hk, ih.1, ih.2]
    exact ⟨rfl, rfl⟩
theorem rst_st {th k : Nat} {l : List Nat} (h : ¬ th < tgO k) : rstL th (k :: l) = k :: l ∧ emL th (k :: l) = [] := by
  constructor
  · simp only [rstL, if_neg h]
  · unfold emL
    simp only [popL, if_neg h]
    rfl
theorem rst_hd {th : Nat} {l : List Nat} (h : hdT l ≤ th) : rstL th l = l ∧ emL th l = [] := by
  cases l with
  | nil => exact ⟨rfl, rfl⟩
  | cons k l => exact rst_st (by have : tgO k ≤ th := h; omega)
theorem ems_len {th : Nat} : ∀ l : List Nat, (emL th l).length + (rstL th l).length = l.length
  | [] => rfl
  | k :: r => by
    have := ems_len (th := th) r
    by_cases c : th < tgO k
    · rw [emL_c c, rstL_c c]; simp; omega
    · rw [(rst_st c).1, (rst_st c).2]; simp
/-- the kinds of what waits for its right side -/
def tyL : List Nat → List Bool
  | [] => []
  | k :: r => if k = 9 ∨ k = 12 then tyL r else if k = 10 ∨ k = 11 then true :: tyL r else false :: tyL r
theorem tys_app {l2 : List (Nat × Nat)} : ∀ {l1 : List (Nat × Nat)} {t t1 : List Bool}, tys l1 t = some t1 → tys (l1 ++ l2) t = tys l2 t1
  | [], t, t1, h => by cases h; rfl
  | q :: r, t, t1, h => by
    simp only [List.cons_append, tys] at h ⊢
    cases e : tst q.1 t with
    | none => rw [e] at h; cases h
    | some t' =>
      rw [e] at h
      simp only at h ⊢
      exact tys_app h
theorem vals_app : ∀ (l1 l2 : List (Nat × Nat)), vals (l1 ++ l2) = vals l1 + vals l2
  | [], l2 => by simp [vals]
  | q :: r, l2 => by
    have := vals_app r l2
    simp only [List.cons_append, vals, this]
    omega
theorem vals_em {th : Nat} {l : List Nat} (h : ∀ k ∈ l, 2 ≤ k) : vals (emL th l) = 0 := by
  induction l with
  | nil => rfl
  | cons k r ih =>
    by_cases c : th < tgO k
    · rw [emL_c c]
      have := h k (by simp)
      simp only [vals, if_neg (show ¬ k ≤ 1 by omega), Nat.zero_add]
      exact ih (fun j hj => h j (by simp [hj]))
    · rw [(rst_st c).2]; rfl
theorem ty_ar {k : Nat} {r : List Nat} (h : 5 ≤ tgO k) : tyL (k :: r) = false :: tyL r ∧ tst k (false :: false :: tyL r) = some (false :: tyL r) := by
  have : tgO k = 5 ∨ tgO k = 6 := by have := tg_bnd k; omega
  rcases this with h | h
  · rcases tg_5 h with rfl | rfl <;> exact ⟨rfl, rfl⟩
  · rcases tg_6 h with rfl | rfl | rfl <;> exact ⟨rfl, rfl⟩
theorem ty_sg {k : Nat} {r : List Nat} (h : tgO k = 4) : tyL (k :: r) = false :: tyL r ∧ tst k (false :: false :: tyL r) = some (true :: tyL r) := by
  obtain ⟨h1, h2⟩ := tg_4 h
  have : k = 4 ∨ k = 5 ∨ k = 6 ∨ k = 7 ∨ k = 8 := by omega
  rcases this with rfl | rfl | rfl | rfl | rfl <;> exact ⟨rfl, rfl⟩
theorem ty_A {Y : List Nat} : ∀ {A : List Nat}, (∀ k ∈ A, 5 ≤ tgO k) → tys (A.map (fun k => (k, 0))) (false :: tyL (A ++ Y)) = some (false :: tyL Y)
  | [], _ => rfl
  | k :: A, h => by
    have e := ty_ar (r := A ++ Y) (h k (by simp))
    simp only [List.map_cons, List.cons_append, tys, e.1, e.2]
    exact ty_A (fun j hj => h j (by simp [hj]))
theorem ty_B {th : Nat} : ∀ {B : List Nat}, bOk B → tys (emL th B) (true :: tyL B) = some (true :: tyL (rstL th B))
  | [], _ => rfl
  | k :: r, h => by
    by_cases c : th < tgO k
    · rw [emL_c c, rstL_c c]
      have ih := ty_B (th := th) h.2
      rcases h.tg.2 with rfl | rfl | rfl | rfl
      · exact ih
      · exact ih
      · exact ih
      · exact absurd c (Nat.not_lt_zero th)
    · rw [(rst_st c).1, (rst_st c).2]
      rfl
theorem aOk.tg {A : List Nat} (h : aOk A) : A.length ≤ 2 ∧ ∀ k ∈ A, 5 ≤ tgO k ∧ 2 ≤ k ∧ k < 16 := by
  rcases h with rfl | ⟨a, h, rfl⟩ | ⟨b, h, rfl⟩ | ⟨b, a, h, h', rfl⟩
  · exact ⟨by simp, fun k hk => by simp at hk⟩
  · exact ⟨by simp, fun k hk => by simp at hk; subst hk; have := tg_5 h; omega⟩
  · exact ⟨by simp, fun k hk => by simp at hk; subst hk; have := tg_6 h; omega⟩
  · refine ⟨by simp, fun k hk => ?_⟩
    simp at hk
    have h1 := tg_6 h
    have h2 := tg_5 h'
    rcases hk with rfl | rfl <;> omega
def flK : List (List (Nat × Nat) × List (Nat × Nat)) → List (Nat × Nat)
  | [] => []
  | c :: r => c.1 ++ c.2 ++ flK r
theorem flK_app : ∀ (a : List (List (Nat × Nat) × List (Nat × Nat))) (c : List (Nat × Nat) × List (Nat × Nat)), flK (a ++ [c]) = flK a ++ c.1 ++ c.2
  | [], c => by simp [flK]
  | x :: r, c => by simp [flK, flK_app r c]
def gOk (st : Nat) (G : List Nat) : Prop := ((st = 5 ∨ st = 6) → ∃ g, tgO g = 4 ∧ G = [g]) ∧ (¬ (st = 5 ∨ st = 6) → G = [])
theorem gOk.mv {st st' : Nat} {G : List Nat} (h : gOk st G) (e : (st = 5 ∨ st = 6) ↔ (st' = 5 ∨ st' = 6)) : gOk st' G := ⟨fun z => h.1 (e.mpr z), fun z => h.2 (fun y => z (e.mp y))⟩
/-- what waits, by the state -/
def pOk (st : Nat) (pile : List Nat) : Prop := ∃ A G B, pile = A ++ G ++ B ∧ aOk A ∧ bOk B ∧ dpt B ≤ 10 ∧ gOk st G ∧ (st ≤ 2 → B = []) ∧ ((st = 0 ∨ st = 7 ∨ st = 8) → A = [])
theorem pOk.all {st : Nat} {pile : List Nat} (h : pOk st pile) : pile.length ≤ 35 ∧ ∀ k ∈ pile, 2 ≤ k ∧ k < 16 := by
  obtain ⟨A, G, B, rfl, hA, hB, hd, hG, -, -⟩ := h
  have a := hA.tg
  have b := bLen hB
  have bs : ∀ {l : List Nat}, bOk l → ∀ k ∈ l, 2 ≤ k ∧ k < 16 := by
    intro l
    induction l with
    | nil => intro _ k hk; simp at hk
    | cons j r ih =>
      intro h k hk
      simp at hk
      rcases hk with rfl | hk
      · have := h.tg.2; omega
      · exact ih h.2 k hk
  have hg : G.length ≤ 1 ∧ ∀ k ∈ G, 2 ≤ k ∧ k < 16 := by
    by_cases c : st = 5 ∨ st = 6
    · obtain ⟨g, h1, rfl⟩ := hG.1 c
      exact ⟨by simp, fun k hk => by simp at hk; subst hk; have := tg_4 h1; omega⟩
    · rw [hG.2 c]
      exact ⟨by simp, fun k hk => by simp at hk⟩
  refine ⟨?_, fun k hk => ?_⟩
  · simp only [List.length_append]
    split at b
    · omega
    · split at b <;> omega
  · simp only [List.mem_append] at hk
    rcases hk with (hk | hk) | hk
    · exact (a.2 k hk).2
    · exact hg.2 k hk
    · exact bs hB k hk
