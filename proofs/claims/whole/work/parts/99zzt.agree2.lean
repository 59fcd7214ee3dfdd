/-! class and reference answer alike: calls that make cells -/
def Ag2 (d x : Nat) (h : AH) (W : WS) (y1 y2 : Nat) (as : List Value) : Prop := ∃ N U, N ≤ hN h + 200 ∧ U ≤ hU h + 2000 ∧ Ag d x h W y1 y2 as N U
theorem acC_le (p : Nat → Nat) (n : Nat) (o : Option PC) : acC p n o ≤ 6 ∧ acV p n o ≤ 33 := by
  cases o with
  | none => exact ⟨Nat.zero_le _, Nat.zero_le _⟩
  | some _ =>
    simp only [acC, acV, rmC, rmV]
    split <;> simp
section AG2
variable {p : Nat → Nat} {d x : Nat} {h : AH} {nr nw : Nat} {A M : PC} {fo y : Int32} {ps : List PC} {ns : List (Nat × Nat × Int32)} {cls : List (List (List (Nat × Nat) × List (Nat × Nat)))} {tp : List Int32} {im : Nat → Option TW}
theorem ag_fall {q : Int32} (H : AgP p d x h ((nr, nw, A, fo, y, M, ps, ns), cls, tp, im)) : Ag2 d x h ((nr, nw, A, fo, y, M, ps, ns), cls, tp, im) nX11_fall nX12_fall [.int q] := by
  obtain ⟨C, R, ok, hd⟩ := H
  have b := acC_le p ps.length (oFall nr M q).2
  exact ⟨_, _, by (try dsimp only); omega, by (try dsimp only); omega, _, _, _, ok.fall (q := q), fun Q k => c_fall (by omega) x nr nw A M fo y ps ns cls tp im q C k, fun h1 Q R1 k => m_fall (by omega) (x + 101) nr nw A M fo y ps ns cls tp im q R1 k⟩
theorem ag_train {q v : Int32} (H : AgP p d x h ((nr, nw, A, fo, y, M, ps, ns), cls, tp, im)) : Ag2 d x h ((nr, nw, A, fo, y, M, ps, ns), cls, tp, im) nX11_train nX12_train [.int q, .int v] := by
  obtain ⟨C, R, ok, hd⟩ := H
  have b := acC_le p ps.length (oTrain nr M q v).2
  exact ⟨_, _, by (try dsimp only); omega, by (try dsimp only); omega, _, _, _, ok.train (q := q) (v := v), fun Q k => c_train (by omega) x nr nw A M fo y ps ns cls tp im q v C k, fun h1 Q R1 k => m_train (by omega) (x + 101) nr nw A M fo y ps ns cls tp im q v R1 k⟩
theorem ag_shift {q v : Int32} (H : AgP p d x h ((nr, nw, A, fo, y, M, ps, ns), cls, tp, im)) : Ag2 d x h ((nr, nw, A, fo, y, M, ps, ns), cls, tp, im) nX11_shift nX12_shift [.int q, .int v] := by
  obtain ⟨C, R, ok, hd⟩ := H
  have b := acC_le p ps.length (oShift nw M q v).2
  exact ⟨_, _, by (try dsimp only); omega, by (try dsimp only); omega, _, _, _, ok.shift (q := q) (v := v), fun Q k => c_shift (by omega) x nr nw A M fo y ps ns cls tp im q v C k, fun h1 Q R1 k => m_shift (by omega) (x + 101) nr nw A M fo y ps ns cls tp im q v R1 k⟩
theorem ag_lend {a b c : Int32} (H : AgP p d x h ((nr, nw, A, fo, y, M, ps, ns), cls, tp, im)) : Ag2 d x h ((nr, nw, A, fo, y, M, ps, ns), cls, tp, im) nX11_lend nX12_lend [.int a, .int b, .int c] := by
  obtain ⟨C, R, ok, hd⟩ := H
  have b' := acC_le p ps.length (oLend nr M a b c).2
  exact ⟨_, _, by (try dsimp only); omega, by (try dsimp only); omega, _, _, _, ok.lend (p := a) (q := b) (c := c), fun Q k => c_lend (by omega) x nr nw A M fo y ps ns cls tp im a b c C k, fun h1 Q R1 k => m_lend (by omega) (x + 101) nr nw A M fo y ps ns cls tp im a b c R1 k⟩
theorem ag_day (H : AgP p d x h ((nr, nw, A, fo, y, M, ps, ns), cls, tp, im)) : Ag2 d x h ((nr, nw, A, fo, y, M, ps, ns), cls, tp, im) nX11_day nX12_day [] := by
  obtain ⟨C, R, ok, hd⟩ := H
  have b := acC_le p ps.length (oDay nr nw A M (foR cls fo)).2
  exact ⟨_, _, by (try dsimp only); omega, by (try dsimp only); omega, _, _, _, ok.day (R := foR cls fo), fun Q k => c_day (by omega) x nr nw A M fo y ps ns cls tp im C ok.1 k, fun h1 Q R1 k => m_day (by omega) (x + 101) nr nw A M fo y ps ns cls tp im R1 ok.1 k⟩
theorem ag_hill (H : AgP p d x h ((nr, nw, A, fo, y, M, ps, ns), cls, tp, im)) : Ag2 d x h ((nr, nw, A, fo, y, M, ps, ns), cls, tp, im) nX11_hill nX12_hill [] := by
  obtain ⟨C, R, ok, hd⟩ := H
  exact ⟨_, _, by (try dsimp only); omega, by (try dsimp only); omega, _, _, _, ok.hill R.2.2.2.2.1.2.1, fun Q k => c_hill (by omega) x nr nw A M fo y ps ns cls tp im C k, fun h1 Q R1 k => m_hill (by omega) (x + 101) nr nw A M fo y ps ns cls tp im R1 ok.2 k⟩
theorem ag_rule (H : AgP p d x h ((nr, nw, A, fo, y, M, ps, ns), cls, tp, im)) : Ag2 d x h ((nr, nw, A, fo, y, M, ps, ns), cls, tp, im) nX11_rule nX12_rule [] := by
  obtain ⟨C, R, ok, hd⟩ := H
  have b : rlC cls tp ≤ 3 ∧ rlU cls tp ≤ 300 := by
    unfold rlC rlU
    split
    · simp
    · unfold ruC ruU
      have ro := rl_ok R.2.2.2.2.1.2.1
      split
      · rename_i z
        rcases ro with ⟨-, o1, o2, o3, -⟩ | ⟨-, o⟩
        · unfold ruV; omega
        · exact absurd z o
      · simp
  exact ⟨_, _, by (try dsimp only); omega, by (try dsimp only); omega, _, _, _, ok.rule, fun Q k => c_ruleOp (by omega) x _ cls tp im C k, fun h1 Q R1 k => m_ruleM (by omega) (x + 101) _ cls tp im R1 ok.2 k⟩
theorem ag_image {s : Int32} (H : AgP p d x h ((nr, nw, A, fo, y, M, ps, ns), cls, tp, im)) : Ag2 d x h ((nr, nw, A, fo, y, M, ps, ns), cls, tp, im) nX11_image nX12_image [.int s] := by
  obtain ⟨C, R, ok, hd⟩ := H
  have l : ps.length ≤ 20 := R.2.1.1.2.2.1
  have b : igC p im ps.length s ≤ 131 ∧ igV p im ps.length s ≤ 753 := by
    unfold igC igV
    split
    · split <;> omega
    · simp
  exact ⟨_, _, by (try dsimp only); omega, by (try dsimp only); omega, _, _, _, ok.image (s := s), fun Q k => c_image (by omega) x nr nw A M fo y ps ns cls tp im s C k, fun h1 Q R1 k => m_image (by omega) (x + 101) _ cls tp im s R1 k⟩
theorem ag_back {s : Int32} (H : AgP p d x h ((nr, nw, A, fo, y, M, ps, ns), cls, tp, im)) : Ag2 d x h ((nr, nw, A, fo, y, M, ps, ns), cls, tp, im) nX11_back nX12_back [.int s] := by
  obtain ⟨C, R, ok, hd⟩ := H
  have b : bkL im s ≤ 20 := by
    unfold bkL
    split
    · rename_i z
      have hs : s.toNatClampNeg < 4 := by
        obtain ⟨i, hi, rfl⟩ := rn_of (n := 4) (by decide) ⟨z.1, show s < nI 4 from Int32.lt_of_le_of_lt z.2 (by decide)⟩
        rw [nI_clamp (by omega)]; exact hi
      have := R.2.2.2.2.2.1 _ hs
      split
      · simp
      · rename_i T e
        rw [e] at this
        obtain ⟨nr', nw', A', fo', x', M', ps', ns'⟩ := T
        exact this.2.1.2.2.1
    · simp
  exact ⟨_, _, by (try dsimp only); omega, by (try dsimp only); omega, _, _, _, ok.back (s := s), fun Q k => c_back (by omega) x _ cls tp im s C k, fun h1 Q R1 k => m_back (by omega) (x + 101) _ cls tp im s R1 k⟩
end AG2
