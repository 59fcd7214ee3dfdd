/-! settling: those whose purse is nothing are rings alone -/
theorem bz1 : ∀ s, s < 32 → ∀ z, z < 5 → s.testBit z = false → ∀ r, r < 5 → (s + 2 ^ z).testBit r = (s.testBit r || r == z) := by decide +kernel
theorem bz2 : ∀ nr, nr < 6 → ∀ s, s < 2 ^ nr → ∀ z, z < nr → s.testBit z = false → s + 2 ^ z < 2 ^ nr := by decide +kernel
theorem bz3 : ∀ s, s < 32 → ∀ z, z < 5 → s.testBit z = false → ∀ r, r < 5 → s.testBit r = true → (s - 2 ^ r).testBit z = false := by decide +kernel
theorem bz4 : ∀ s, s < 32 → ∀ z, z < 5 → s.testBit z = false → popN (s + 2 ^ z) = popN s + 1 := by decide +kernel
theorem bz5 : ∀ s, s < 32 → ∀ t, t < 32 → (∀ r, r < 5 → s.testBit r = t.testBit r) → s = t := by decide +kernel
theorem bz6 : ∀ n, n < 6 → popN (2 ^ n - 1) = n := by decide +kernel
theorem tgF_eqv {f : Nat → Int32} {s t : Nat} : ∀ n, (∀ r, r < n → f r = 0 ∨ s.testBit r = t.testBit r) → tgF f s n = tgF f t n
  | 0, _ => rfl
  | n + 1, h => by
    have ih := tgF_eqv (f := f) (s := s) (t := t) n (fun r hr => h r (by omega))
    simp only [tgF, ih]
    rcases h n (by omega) with e | e
    · rw [e, Int32.add_zero, ite_self, ite_self]
    · rw [e]
theorem tgF_0 {f : Nat → Int32} : ∀ n, tgF f 0 n = 0
  | 0 => rfl
  | n + 1 => by simp [tgF, tgF_0 n]
theorem mx_ge {T : Nat → Nat} {s r : Nat} (hb : s.testBit r = true) : ∀ n, r < n → T (s - 2 ^ r) ≤ mxF T s n
  | 0, h => absurd h (Nat.not_lt_zero r)
  | n + 1, h => by
    simp only [mxF]
    by_cases c : r = n
    · subst c
      rw [if_pos hb]
      split <;> omega
    · have := mx_ge (T := T) hb n (by omega)
      split
      · split <;> omega
      · exact this
theorem mx_le {T : Nat → Nat} {s B : Nat} : ∀ n, (∀ r, r < n → s.testBit r = true → T (s - 2 ^ r) ≤ B) → mxF T s n ≤ B
  | 0, _ => Nat.zero_le B
  | n + 1, h => by
    have ih := mx_le (T := T) n (fun r hr => h r (by omega))
    simp only [mxF]
    split
    · rename_i c
      have := h n (by omega) c
      split <;> omega
    · exact ih
theorem mx_att {T : Nat → Nat} {s : Nat} : ∀ n, mxF T s n = 0 ∨ ∃ r, r < n ∧ s.testBit r = true ∧ mxF T s n = T (s - 2 ^ r)
  | 0 => Or.inl rfl
  | n + 1 => by
    have ih : mxF T s n = 0 ∨ ∃ r, r < n + 1 ∧ s.testBit r = true ∧ mxF T s n = T (s - 2 ^ r) := (mx_att n).imp id (fun ⟨r, a, b, c⟩ => ⟨r, by omega, b, c⟩)
    simp only [mxF]
    split
    · rename_i c
      split
      · exact Or.inr ⟨n, by omega, c, rfl⟩
      · exact ih
    · exact ih
def dD (f : Nat → Int32) (nr s : Nat) : Nat := dpT f nr (s + 1) s
theorem dD_s (f : Nat → Int32) (nr s : Nat) (h : 0 < s) : dD f nr s = mxF (dpT f nr s) s nr + (if tgF f s nr = 0 then 1 else 0) := by
  unfold dD
  simp [dpT, show ¬ s = 0 by omega]
theorem dz (f : Nat → Int32) (nr z : Nat) (hr : nr ≤ 5) (hz : z < nr) (fz : f z = 0) : ∀ b s : Nat, s ≤ b → s < 2 ^ nr → s.testBit z = false → dD f nr (s + 2 ^ z) = dD f nr s + 1 := by
  have hl : 2 ^ nr ≤ 2 ^ 5 := Nat.pow_le_pow_right (by decide) hr
  have hp : 0 < 2 ^ z := Nat.two_pow_pos z
  intro b
  induction b with
  | zero =>
    intro s hs _ hb
    have : s = 0 := by omega
    subst this
    rw [dD_s f nr _ (by omega)]
    have e1 : tgF f (0 + 2 ^ z) nr = 0 := by
      rw [← tgF_0 (f := f) nr]
      refine tgF_eqv nr (fun r hr => ?_)
      by_cases c : r = z
      · subst c; exact Or.inl fz
      · right
        rw [bz1 0 (by decide) z (by omega) hb r (by omega)]
        simp [c]
    rw [if_pos e1]
    have e2 : mxF (dpT f nr (0 + 2 ^ z)) (0 + 2 ^ z) nr ≤ 0 := by
      refine mx_le nr (fun r hr c => ?_)
      rw [bz1 0 (by decide) z (by omega) hb r (by omega)] at c
      have : r = z := by simpa using c
      subst this
      have e3 : 0 + 2 ^ r - 2 ^ r = 0 := by omega
      rw [e3, dpT_up f nr 0 _ (by omega)]
      exact Nat.le_refl 0
    have e4 : dD f nr 0 = 0 := rfl
    omega
  | succ b ih =>
    intro s hs hsn hb
    by_cases c0 : s ≤ b
    · exact ih s c0 hsn hb
    have hs0 : 0 < s := by omega
    have et : tgF f (s + 2 ^ z) nr = tgF f s nr := by
      refine tgF_eqv nr (fun r hr => ?_)
      by_cases c : r = z
      · subst c; exact Or.inl fz
      · right
        rw [bz1 s (by omega) z (by omega) hb r (by omega)]
        simp [c]
    have hT' : ∀ j, j < s + 2 ^ z → dpT f nr (s + 2 ^ z) j = dD f nr j := fun j hj => dpT_up f nr j _ hj
    have hT : ∀ j, j < s → dpT f nr s j = dD f nr j := fun j hj => dpT_up f nr j _ hj
    have hr1 : ∀ r, r < nr → s.testBit r = true → dpT f nr (s + 2 ^ z) (s + 2 ^ z - 2 ^ r) = dD f nr (s - 2 ^ r) + 1 := fun r hr c => by
      have h1 := tb_le c
      have h2 : 0 < 2 ^ r := Nat.two_pow_pos r
      rw [hT' _ (by omega), show s + 2 ^ z - 2 ^ r = (s - 2 ^ r) + 2 ^ z by omega]
      exact ih (s - 2 ^ r) (by omega) (by omega) (bz3 s (by omega) z (by omega) hb r (by omega) c)
    have up : mxF (dpT f nr (s + 2 ^ z)) (s + 2 ^ z) nr ≤ mxF (dpT f nr s) s nr + 1 := by
      refine mx_le nr (fun r hr c => ?_)
      by_cases cz : r = z
      · subst cz
        rw [show s + 2 ^ r - 2 ^ r = s by omega, hT' _ (by omega), dD_s f nr s hs0]
        split <;> omega
      · have c1 : s.testBit r = true := by
          rw [bz1 s (by omega) z (by omega) hb r (by omega)] at c
          simpa [cz] using c
        have h1 := tb_le c1
        have h2 : 0 < 2 ^ r := Nat.two_pow_pos r
        have := mx_ge (T := dpT f nr s) c1 nr hr
        rw [hT _ (by omega)] at this
        rw [hr1 r hr c1]
        omega
    have lo : mxF (dpT f nr s) s nr + 1 ≤ mxF (dpT f nr (s + 2 ^ z)) (s + 2 ^ z) nr := by
      have hex : ∃ r, r < nr ∧ s.testBit r = true ∧ mxF (dpT f nr s) s nr ≤ dD f nr (s - 2 ^ r) := by
        rcases mx_att (T := dpT f nr s) (s := s) nr with e | ⟨r, a, c, e⟩
        · obtain ⟨r, c⟩ := Nat.exists_testBit_of_ne_zero (show s ≠ 0 by omega)
          have h1 := tb_le c
          refine ⟨r, (Nat.pow_lt_pow_iff_right (a := 2) (by decide)).mp (by omega), c, by omega⟩
        · have h1 := tb_le c
          have h2 : 0 < 2 ^ r := Nat.two_pow_pos r
          exact ⟨r, a, c, by rw [e, hT _ (by omega)]; exact Nat.le_refl _⟩
      obtain ⟨r, a, c, e⟩ := hex
      have c1 : (s + 2 ^ z).testBit r = true := by
        rw [bz1 s (by omega) z (by omega) hb r (by omega), c]; rfl
      have := mx_ge (T := dpT f nr (s + 2 ^ z)) c1 nr a
      rw [hr1 r a c] at this
      omega
    rw [dD_s f nr _ (show 0 < s + 2 ^ z by omega), dD_s f nr s hs0, et]
    omega
def nzF (f : Nat → Int32) : Nat → Nat
  | 0 => 0
  | n + 1 => if f n = 0 then nzF f n else nzF f n + 2 ^ n
def nxF (f : Nat → Int32) (al : Nat) : Nat → Nat
  | 0 => al
  | n + 1 => if f n = 0 then nxF f al n + 2 ^ n else nxF f al n
theorem nzF_lt (f : Nat → Int32) : ∀ n, nzF f n < 2 ^ n
  | 0 => Nat.one_pos
  | n + 1 => by
    have := nzF_lt f n
    simp only [nzF]
    split <;> omega
theorem nzF_tb (f : Nat → Int32) : ∀ n, n ≤ 5 → ∀ r, r < 5 → (nzF f n).testBit r = decide (r < n ∧ f r ≠ 0)
  | 0, _, r, _ => by simp [nzF]
  | n + 1, hn, r, hr => by
    have ih := nzF_tb f n (by omega) r hr
    have hl := nzF_lt f n
    have hl2 : 2 ^ n ≤ 2 ^ 4 := Nat.pow_le_pow_right (by decide) (by omega)
    have hn0 : (nzF f n).testBit n = false := Nat.testBit_lt_two_pow hl
    simp only [nzF]
    by_cases c : f n = 0
    · rw [if_pos c, ih]
      by_cases e : r = n
      · subst e; simp [c]
      · simp only [show (r < n + 1) = (r < n) from propext (by omega)]
    · rw [if_neg c, bz1 _ (by omega) n (by omega) hn0 r hr, ih]
      by_cases e : r = n
      · subst e; simp [c]
      · have : (r == n) = false := by simp [e]
        simp only [this, Bool.or_false, show (r < n + 1) = (r < n) from propext (by omega)]
theorem nxF_ok (f : Nat → Int32) (nr : Nat) (hr : nr ≤ 5) : ∀ n, n ≤ nr → nxF f (nzF f nr) n < 2 ^ nr ∧ (∀ r, r < 5 → (nxF f (nzF f nr) n).testBit r = decide (r < nr ∧ (f r ≠ 0 ∨ r < n))) ∧ popN (nxF f (nzF f nr) n) + dD f nr (nzF f nr) = popN (nzF f nr) + dD f nr (nxF f (nzF f nr) n)
  | 0, _ => ⟨nzF_lt f nr, fun r h => by
      rw [show nxF f (nzF f nr) 0 = nzF f nr from rfl, nzF_tb f nr hr r h]
      simp, rfl⟩
  | n + 1, hn => by
    have hl : 2 ^ nr ≤ 2 ^ 5 := Nat.pow_le_pow_right (by decide) hr
    obtain ⟨h1, h2, h3⟩ := nxF_ok f nr hr n (by omega)
    simp only [nxF]
    by_cases c : f n = 0
    · have hb : (nxF f (nzF f nr) n).testBit n = false := by
        rw [h2 n (by omega)]
        simp [c]
      rw [if_pos c]
      refine ⟨bz2 nr (by omega) _ h1 n (by omega) hb, fun r hr5 => ?_, ?_⟩
      · rw [bz1 _ (by omega) n (by omega) hb r hr5, h2 r hr5]
        by_cases e : r = n
        · subst e; simp; omega
        · have : (r == n) = false := by simp [e]
          simp only [this, Bool.or_false, show (r < n + 1) = (r < n) from propext (by omega)]
      · rw [bz4 _ (by omega) n (by omega) hb, dz f nr n hr (by omega) c _ _ (Nat.le_refl _) h1 hb]
        omega
    · rw [if_neg c]
      refine ⟨h1, fun r hr5 => ?_, h3⟩
      rw [h2 r hr5]
      by_cases e : r = n
      · subst e; simp [c]
      · simp only [show (r < n + 1) = (r < n) from propext (by omega)]
theorem settle_eq (f : Nat → Int32) (nr : Nat) (hr : nr ≤ 5) : nI (popN (nzF f nr)) - nI (dD f nr (nzF f nr)) = nI nr - nI (dpT f nr (2 ^ nr) (2 ^ nr - 1)) ∧ tgF f (nzF f nr) nr = tgF f (2 ^ nr - 1) nr := by
  have hl : 2 ^ nr ≤ 2 ^ 5 := Nat.pow_le_pow_right (by decide) hr
  have hl1 : 1 ≤ 2 ^ nr := Nat.one_le_two_pow
  obtain ⟨h1, h2, h3⟩ := nxF_ok f nr hr nr (Nat.le_refl nr)
  have ef : nxF f (nzF f nr) nr = 2 ^ nr - 1 := bz5 _ (by omega) _ (by omega) (fun r hr5 => by
    rw [h2 r hr5, Nat.testBit_two_pow_sub_one]
    by_cases c : r < nr <;> simp [c])
  rw [ef, bz6 nr (by omega)] at h3
  have ed : dpT f nr (2 ^ nr) (2 ^ nr - 1) = dD f nr (2 ^ nr - 1) := dpT_up f nr _ _ (by omega)
  constructor
  · rw [ed]
    have e1 : nI nr + nI (dD f nr (nzF f nr)) = nI (popN (nzF f nr)) + nI (dD f nr (2 ^ nr - 1)) := by rw [nI_add, nI_add, h3]
    grind
  · refine tgF_eqv nr (fun r hr5 => ?_)
    by_cases c : f r = 0
    · exact Or.inl c
    · right
      rw [nzF_tb f nr hr r (by omega), Nat.testBit_two_pow_sub_one]
      simp [c]
