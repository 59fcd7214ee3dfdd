/-! the whole of it, as a value: town, rules, tape, images -/
abbrev WS : Type := TW × List (List (List (Nat × Nat) × List (Nat × Nat))) × List Int32 × (Nat → Option TW)
def twOk (n : Nat) : TW → Prop
  | (nr, nw, A, fo, x, M, ps, ns) => ((A 0 0 = 0 ∧ nr = 0 ∧ nw = 0 ∧ M 0 0 = 0 ∧ ps = []) ∨ (hilOk nr nw A ∧ momOk 999 nr nw M ∧ ∀ N ∈ ps, momOk 999 nr nw N)) ∧ ntOk nr nw ns ∧ (∃ i, i < 2 ^ 31 ∧ x = nI i) ∧ (∃ i, i ≤ n ∧ fo = cI i)
def wsOk : WS → Prop
  | (T, cls, tp, im) => twOk cls.length T ∧ ∀ s T', s < 4 → im s = some T' → twOk cls.length T'
def imP (h : AH) (m s : Nat) : PC := fun r j => hI h (m + 42) (700 * s + ofR r + j)
def imIs (h : AH) (m s : Nat) (o : Option TW) : Prop := match o with
  | none => hI h (m + 43) s = 0
  | some T => hI h (m + 43) s = 1 ∧ MTw (imP h m s) T
def RW (h : AH) (m : Nat) : WS → Prop
  | (T, cls, tp, im) => ModAt h m ∧ MNo h m T ∧ M5 h m ∧ (hI h m 25 = nI cls.length ∧ cls.length ≤ 6 ∧ (∀ (i : Nat) (c : List (List (Nat × Nat) × List (Nat × Nat))), cls[i]? = some c → MRul h m i c)) ∧ (hI h m 21 = nI tp.length ∧ tp.length ≤ 400 ∧ (∀ (i : Nat) (b : Int32), tp[i]? = some b → hI h (m + 21) i = b)) ∧ (∀ s, s < 4 → imIs h m s (im s)) ∧ hI h m 30 = 12
theorem rows_653 : ∀ r ∈ rowsL, ofR r + lnR r ≤ 653 := by decide
theorem rows_in : ∀ r ∈ rowsL, r = 34 ∨ r ∈ six ∨ r ∈ nine := by decide
theorem imIs.cg {h h' : AH} {m s : Nat} {o : Option TW} (hs : s < 4) (H : imIs h m s o) (e : hI h' (m + 43) s = hI h (m + 43) s) (e2 : ∀ j, 700 * s ≤ j → j < 700 * s + 700 → hI h' (m + 42) j = hI h (m + 42) j) : imIs h' m s o := by
  cases o with
  | none => exact e.trans H
  | some T => exact ⟨e.trans H.1, H.2.cg (fun r hr j hj => e2 _ (by omega) (by have := rows_653 r hr; omega))⟩
theorem RW.cg {h h' : AH} {m : Nat} {W : WS} {S : Nat → Prop} (H : RW h m W) (f : Fr' h h' S) (hs : ∀ c, S c → QW m c) (e0 : ∀ j, j ≠ 57 → j ≠ 58 → hI h' m j = hI h m j) (e6 : ∀ r ∈ six, ∀ j, j < lnR r → hI h' (m + r) j = hI h (m + r) j) (e9 : ∀ r ∈ nine, ∀ j, hI h' (m + r) j = hI h (m + r) j) (e42 : ∀ j, j < 2800 → hI h' (m + 42) j = hI h (m + 42) j) (h5 : M5 h' m) : RW h' m W := by
  obtain ⟨T, cls, tp, im⟩ := W
  obtain ⟨w1, w2, w3, ⟨w4, w5, w6⟩, ⟨w7, w8, w9⟩, w10, w11⟩ := H
  have g : ∀ c, ¬ QW m c → ∀ j, hI h' c j = hI h c j := fun c hc j => f.2.2.2.2.1 c (fun z => hc (hs c z)) j
  refine ⟨w1.fr f, w2.cg (fun r hr j hj => ?_), h5, ⟨(e0 25 (by decide) (by decide)).trans w4, w5, fun i c hc => (w6 i c hc).cg (fun b h1 h2 => g b (by unfold QW; omega))⟩, ⟨(e0 21 (by decide) (by decide)).trans w7, w8, fun i b hb => (g (m + 21) (by unfold QW; omega) i).trans (w9 i b hb)⟩, fun s hs => (w10 s hs).cg hs (g (m + 43) (by unfold QW; omega) s) (fun j _ hj => e42 j (by omega)), (e0 30 (by decide) (by decide)).trans w11⟩
  rcases rows_in r hr with e | e | e
  · subst e
    exact e0 45 (by decide) (by decide)
  · have : r ≠ 34 := by intro z; subst z; exact absurd e (by decide)
    simp only [refP, if_neg this]
    exact e6 r e j hj
  · have : r ≠ 34 := by intro z; subst z; exact absurd e (by decide)
    simp only [refP, if_neg this]
    exact e9 r e j
theorem RW.rs {h h' : AH} {m : Nat} {W : WS} (H : RW h m W) (S : Rs h h' m) (h5 : M5 h' m) : RW h' m W := H.cg S.1.1 (fun c z => z) S.1.2.1 S.2 S.1.2.2.2.2 S.1.2.2.2.1 h5
theorem RW.m5 {h : AH} {m : Nat} {W : WS} (H : RW h m W) : M5 h m := by
  obtain ⟨T, cls, tp, im⟩ := W
  exact H.2.2.1
theorem RW.mod {h : AH} {m : Nat} {W : WS} (H : RW h m W) : ModAt h m := by
  obtain ⟨T, cls, tp, im⟩ := W
  exact H.1
theorem RW.scr {h h' : AH} {m : Nat} {W : WS} {S : Nat → Prop} (H : RW h m W) (f : Fr' h h' S) (hs : ∀ c, S c → m + 35 ≤ c ∧ c ≤ m + 41) : RW h' m W := by
  have g : ∀ c, (c < m + 35 ∨ m + 41 < c) → ∀ j, hI h' c j = hI h c j := fun c hc j => f.2.2.2.2.1 c (fun z => by have := hs c z; omega) j
  exact H.cg f (fun c z => by have := hs c z; unfold QW; omega) (fun j _ _ => g m (by omega) j) (fun r hr j _ => g (m + r) (by have := six_rows r hr; omega) j) (fun r hr j => g (m + r) (by have : r ≤ 34 := (by decide : ∀ r ∈ nine, r ≤ 34) r hr; omega) j) (fun j _ => g (m + 42) (by omega) j) (fun j hj => by rw [g (m + 32) (by omega)]; exact H.m5 j hj)
/-- the rule in force -/
def foR (cls : List (List (List (Nat × Nat) × List (Nat × Nat)))) (fo : Int32) : Option (List (List (Nat × Nat) × List (Nat × Nat))) := Rr cls (fo + 1).toNatClampNeg
theorem foR_cI {cls : List (List (List (Nat × Nat) × List (Nat × Nat)))} {i : Nat} (hi : i < 1000) : foR cls (cI i) = Rr cls i := by
  unfold foR
  rw [cI_1, nI_clamp (by omega)]
theorem RW.qk {h : AH} {m nr nw : Nat} {A M : PC} {fo x : Int32} {ps : List PC} {ns : List (Nat × Nat × Int32)} {cls : List (List (List (Nat × Nat) × List (Nat × Nat)))} {tp : List Int32} {im : Nat → Option TW} (H : RW h m ((nr, nw, A, fo, x, M, ps, ns), cls, tp, im)) (ok : wsOk ((nr, nw, A, fo, x, M, ps, ns), cls, tp, im)) : QK h m nr nw A M (foR cls fo) := by
  obtain ⟨w1, w2, w3, ⟨w4, w5, w6⟩, w7, w8, w9⟩ := H
  obtain ⟨⟨o1, o2, o3, ⟨i, hi, rfl⟩⟩, -⟩ := ok
  rw [foR_cI (by omega)]
  refine ⟨⟨w1, w2.hil.1, w2.hil.2, mfor_of hi w6 w2.2.1.2.2.2.2.2.2, w3.ord w2.1.1⟩, w3, w2.1.1, w2.1.2.1, ?_⟩
  rcases o1 with ⟨a, b, c, -, -⟩ | ⟨a, b, -⟩
  · exact Or.inl ⟨a, b, c⟩
  · exact Or.inr ⟨a, b⟩
theorem RW.ql {h : AH} {m nr nw : Nat} {A M : PC} {fo x : Int32} {ps : List PC} {ns : List (Nat × Nat × Int32)} {cls : List (List (List (Nat × Nat) × List (Nat × Nat)))} {tp : List Int32} {im : Nat → Option TW} (H : RW h m ((nr, nw, A, fo, x, M, ps, ns), cls, tp, im)) (ok : wsOk ((nr, nw, A, fo, x, M, ps, ns), cls, tp, im)) : QL h m nr nw cls ns := by
  obtain ⟨w1, w2, w3, ⟨w4, w5, w6⟩, w7, w8, w9⟩ := H
  exact ⟨w4, w5, w6, w2.2.1.2.2.2.2.1, fun k q hq => w2.2.2.2.2.2.2.2.2 k q hq, ok.1.2.1⟩
