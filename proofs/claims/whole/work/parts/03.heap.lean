/-! The abstract heap: cells by numbers 1, 2, ..; a shape (kind, length) and contents by cell and place. Kinds: 1 int[], 2 byte[], 3 boolean[], 4 long[], 5 Rule[], 6 Town[], 7 Moment[], 8 int[][], 10 + c an object of class c. -/
abbrev AH : Type := (Nat → Nat × Nat) × (Nat → Nat → Int32) × (Nat → Nat → Int64) × (Nat → Nat → Nat) × Nat × Nat
def hS (h : AH) (a : Nat) : Nat × Nat := h.1 a
def hI (h : AH) (a i : Nat) : Int32 := h.2.1 a i
def hL (h : AH) (a i : Nat) : Int64 := h.2.2.1 a i
def hR (h : AH) (a i : Nat) : Nat := h.2.2.2.1 a i
def hN (h : AH) : Nat := h.2.2.2.2.1
def hU (h : AH) : Nat := h.2.2.2.2.2
def up2 {α : Type} (f : Nat → Nat → α) (a i : Nat) (x : α) : Nat → Nat → α := fun b j => if b = a then (if j = i then x else f b j) else f b j
def up1 {α : Type} (f : Nat → α) (a : Nat) (g : α) : Nat → α := fun b => if b = a then g else f b
def sI (h : AH) (a i : Nat) (x : Int32) : AH := (h.1, up2 h.2.1 a i x, h.2.2)
def sL (h : AH) (a i : Nat) (x : Int64) : AH := (h.1, h.2.1, up2 h.2.2.1 a i x, h.2.2.2)
def sR (h : AH) (a i : Nat) (x : Nat) : AH := (h.1, h.2.1, h.2.2.1, up2 h.2.2.2.1 a i x, h.2.2.2.2)
/-- the ints of cell b, n of them from place t on, are those of cell a from place f on -/
def cpI (h : AH) (a f b t n : Nat) : AH := (h.1, up1 h.2.1 b (va_cpy (h.2.1 a) (h.2.1 b) f t n), h.2.2)
/-- a new cell of kind k and length n -/
def nC (h : AH) (k n : Nat) : AH := (up1 h.1 (hN h) (k, n), up1 h.2.1 (hN h) (fun _ => 0), up1 h.2.2.1 (hN h) (fun _ => 0), up1 h.2.2.2.1 (hN h) (fun _ => 0), hN h + 1, hU h + n)
/-- new int[n][k]: the outer one first, then the inner ones -/
def nM (h : AH) (n k : Nat) : AH := (fun b => if b = hN h then (8, n) else if hN h < b ∧ b ≤ hN h + n then (1, k) else h.1 b, fun b i => if hN h ≤ b ∧ b ≤ hN h + n then 0 else h.2.1 b i, fun b i => if hN h ≤ b ∧ b ≤ hN h + n then 0 else h.2.2.1 b i, fun b i => if b = hN h then (if i < n then hN h + 1 + i else 0) else if hN h < b ∧ b ≤ hN h + n then 0 else h.2.2.2.1 b i, hN h + 1 + n, hU h + n + n * k)
/-- the classes, in the order of the names; their fields' types -/
def cl13 : List vw_C := [(RX0, TX0, 11), (RX1, TX1, 4), (RX2, TX2, 5), (RX3, TX3, 8), (RX4, TX4, 6), (RX5, TX5, 1), (RX6, TX6, 3), (RX7, TX7, 11), (RX8, TX8, 7), (RX9, TX9, 10), (RX10, TX10, 5), (RX11, TX11, 11), (RX12, TX12, 59)]
def ty13 : List (Nat → FieldType) := [tyX0, tyX1, tyX2, tyX3, tyX4, tyX5, tyX6, tyX7, tyX8, tyX9, tyX10, tyX11, tyX12]
def fTy (c k : Nat) : FieldType := (ty13.getD c tyX0) k
def fN (c : Nat) : Nat := (cl13.getD c (RX0, TX0, 11)).2.2
/-- what a number of the abstract machine is in the machine's heap: 0 is null, k is the k-th cell behind B; a text by its number -/
def rfo (B r : Nat) : Option Nat := if r = 0 then none else some (B + r)
def cv (B : Nat) (adK : Nat → Nat) : Value → Value
  | .ref r => va_rf (rfo B r)
  | .retAddr k => .ref (adK k)
  | v => v
def fV (B : Nat) (h : AH) (a c k : Nat) : Value := match fTy c k with
  | .int => .int (hI h a k)
  | .boolean => .int (hI h a k)
  | _ => va_rf (rfo B (hR h a k))
def cellE (B : Nat) (cid : Nat → ClassId) (h : AH) (a : Nat) : va_E :=
  if (hS h a).1 = 1 then .inl (cid 1, (hS h a).2, .inl (hI h a)) else if (hS h a).1 = 2 then .inl (cid 2, (hS h a).2, .inl (hI h a)) else if (hS h a).1 = 3 then .inl (cid 3, (hS h a).2, .inl (hI h a)) else if (hS h a).1 = 4 then .inl (cid 4, (hS h a).2, .inr (.inl (hL h a)))
  else if (hS h a).1 < 10 then .inl (cid (hS h a).1, (hS h a).2, .inr (.inr (.inr (.inr (fun i => rfo B (hR h a i)))))) else .inr ((hS h a).1 - 10, (List.range (fN ((hS h a).1 - 10))).map (fV B h a ((hS h a).1 - 10)))
def wsOf (B : Nat) (cid : Nat → ClassId) (h : AH) : va_W := (List.range (hN h - 1)).map (fun j => (B + (j + 1), cellE B cid h (j + 1)))
def tysOf (cid : Nat → ClassId) : List (ClassId × FieldType) := [(cid 1, .int), (cid 2, .byte), (cid 3, .boolean), (cid 4, .long), (cid 5, .object RX6), (cid 6, .object RX9), (cid 7, .object RX4), (cid 8, .array .int)]
/-- cells that are there are those of numbers 1 .. hN - 1 -/
def wfH (h : AH) : Prop := 1 ≤ hN h ∧ ∀ a, (hS h a).1 ≠ 0 → 1 ≤ a ∧ a < hN h
def Rel (B : Nat) (D : va_G) (cid : Nat → ClassId) (h : AH) (H : Heap) : Prop := va_P D cl13 (wsOf B cid h) H ∧ wfH h
def AB (B : Nat) : Nat → Prop := fun q => B < q
theorem wsOf_at {B : Nat} {cid : Nat → ClassId} {h : AH} {a : Nat} (h1 : 1 ≤ a) (h2 : a < hN h) : (wsOf B cid h)[a - 1]? = some (B + a, cellE B cid h a) := by
  have e : a - 1 + 1 = a := by omega
  simp only [wsOf, List.getElem?_map]
  rw [List.getElem?_range (by omega)]
  simp [e]
theorem wsOf_of {B : Nat} {cid : Nat → ClassId} {h : AH} {k : Nat} {q : Nat × va_E} (hq : (wsOf B cid h)[k]? = some q) : k + 1 < hN h ∧ q = (B + (k + 1), cellE B cid h (k + 1)) := by
  simp only [wsOf, List.getElem?_map] at hq
  by_cases hk : k < hN h - 1
  · rw [List.getElem?_range hk] at hq
    simp at hq
    exact ⟨by omega, hq.symm⟩
  · rw [List.getElem?_eq_none (by simp; omega)] at hq
    simp at hq
theorem wsOf_len (B : Nat) (cid : Nat → ClassId) (h : AH) : (wsOf B cid h).length = hN h - 1 := by simp [wsOf]
theorem wsOf_D (B : Nat) (cid : Nat → ClassId) (h : AH) : va_D (AB B) (wsOf B cid h) := by
  refine ⟨fun i j p q hi hj e => ?_, fun k q hk => ?_⟩
  · have h1 := (wsOf_of hi).2
    have h2 := (wsOf_of hj).2
    rw [h1, h2] at e
    simp at e
    exact e
  · rw [(wsOf_of hk).2]
    show B < B + (k + 1)
    omega
theorem wsOf_set {B : Nat} {cid : Nat → ClassId} {h h' : AH} {a : Nat} {e : va_E} (h1 : 1 ≤ a) (hn : hN h' = hN h) (ho : ∀ b, b ≠ a → cellE B cid h' b = cellE B cid h b) (ha : cellE B cid h' a = e) : (wsOf B cid h).set (a - 1) (B + a, e) = wsOf B cid h' := by
  apply List.ext_getElem?
  intro k
  by_cases hk : k = a - 1
  · subst hk
    by_cases hl : a - 1 < (wsOf B cid h).length
    · rw [List.getElem?_set_self hl, wsOf_at h1 (by rw [wsOf_len] at hl; omega), ha]
    · rw [List.getElem?_eq_none (by simp; omega), List.getElem?_eq_none (by rw [wsOf_len] at *; omega)]
  · rw [List.getElem?_set_ne (Ne.symm hk)]
    by_cases hl : k + 1 < hN h
    · have e1 := wsOf_at (B := B) (cid := cid) (h := h) (a := k + 1) (by omega) hl
      have e2 := wsOf_at (B := B) (cid := cid) (h := h') (a := k + 1) (by omega) (by omega)
      simp only [Nat.add_sub_cancel] at e1 e2
      rw [e1, e2, ho (k + 1) (by omega)]
    · rw [List.getElem?_eq_none (by rw [wsOf_len]; omega), List.getElem?_eq_none (by rw [wsOf_len]; omega)]
theorem wsOf_push {B : Nat} {cid : Nat → ClassId} {h h' : AH} {e : va_E} (h1 : 1 ≤ hN h) (hn : hN h' = hN h + 1) (ho : ∀ b, b < hN h → cellE B cid h' b = cellE B cid h b) (ha : cellE B cid h' (hN h) = e) : wsOf B cid h ++ [(B + hN h, e)] = wsOf B cid h' := by
  apply List.ext_getElem?
  intro k
  by_cases hk : k + 1 < hN h
  · have e1 := wsOf_at (B := B) (cid := cid) (h := h) (a := k + 1) (by omega) hk
    have e2 := wsOf_at (B := B) (cid := cid) (h := h') (a := k + 1) (by omega) (by omega)
    simp only [Nat.add_sub_cancel] at e1 e2
    rw [List.getElem?_append_left (by rw [wsOf_len]; omega), e1, e2, ho (k + 1) hk]
  · rw [List.getElem?_append_right (by rw [wsOf_len]; omega), wsOf_len]
    by_cases hk2 : k + 1 = hN h
    · have e2 := wsOf_at (B := B) (cid := cid) (h := h') (a := k + 1) (by omega) (by omega)
      simp only [Nat.add_sub_cancel] at e2
      rw [e2, show k - (hN h - 1) = 0 by omega, ← ha, ← hk2]
      rfl
    · rw [List.getElem?_eq_none (by simp; omega), List.getElem?_eq_none (by rw [wsOf_len]; omega)]
/-! reading behind writing -/
theorem up2_self {α : Type} (f : Nat → Nat → α) (a i : Nat) (x : α) : up2 f a i x a i = x := by simp [up2]
theorem up2_cell {α : Type} (f : Nat → Nat → α) (a i b : Nat) (x : α) (h : b ≠ a) : up2 f a i x b = f b := by funext j; simp [up2, h]
theorem hI_sI_ne {h : AH} {a i b : Nat} {x : Int32} (e : b ≠ a) : hI (sI h a i x) b = hI h b := by funext j; simp [hI, sI, up2, e]
theorem hI_sI_same {h : AH} {a i : Nat} {x : Int32} : hI (sI h a i x) a = upd (hI h a) i x := by funext j; simp [hI, sI, up2, upd]
theorem hL_sL_ne {h : AH} {a i b : Nat} {x : Int64} (e : b ≠ a) : hL (sL h a i x) b = hL h b := by funext j; simp [hL, sL, up2, e]
theorem hL_sL_same {h : AH} {a i : Nat} {x : Int64} : hL (sL h a i x) a = vp_updL (hL h a) i x := by funext j; simp [hL, sL, up2, vp_updL]
theorem hR_sR_ne {h : AH} {a i b : Nat} {x : Nat} (e : b ≠ a) : hR (sR h a i x) b = hR h b := by funext j; simp [hR, sR, up2, e]
theorem fV_congr {B : Nat} {h h' : AH} {a : Nat} (c : Nat) (e1 : hI h' a = hI h a) (e2 : hR h' a = hR h a) : fV B h' a c = fV B h a c := by
  funext k
  simp only [fV, e1, e2]
theorem cellE_congr {B : Nat} {cid : Nat → ClassId} {h h' : AH} {a : Nat} (e0 : hS h' a = hS h a) (e1 : hI h' a = hI h a) (e2 : hL h' a = hL h a) (e3 : hR h' a = hR h a) : cellE B cid h' a = cellE B cid h a := by
  simp only [cellE, e0, e1, e2, e3, fV_congr _ e1 e3]
