/-! what the classes' tables say -/
def clOk (c : Nat) (q : vw_C) : Prop := (∀ w ∈ u_ws q.1 q.2.1 q.2.2, w ∈ lw_g) ∧ (∀ a, a < q.2.2 → ∀ b, b < q.2.2 → a ≠ b → (q.2.1 a).2.1 ≠ (q.2.1 b).2.1) ∧ (∀ k, k < q.2.2 → parseFieldDescriptor (q.2.1 k).2.2.1 = some (fTy c k)) ∧ fN c = q.2.2 ∧ (Cond.instantiable q.1 q.2.2 ∈ lw_g ∧ Cond.initialized q.1 ∈ lw_g)
theorem clIn0 : ∀ w ∈ u_ws RX0 TX0 11, w ∈ lw_g := by decide +kernel
theorem clOk0 : clOk 0 (RX0, TX0, 11) := ⟨clIn0, nmX0, tyX0_ok, rfl, by decide +kernel, by decide +kernel⟩
theorem clIn1 : ∀ w ∈ u_ws RX1 TX1 4, w ∈ lw_g := by decide +kernel
theorem clOk1 : clOk 1 (RX1, TX1, 4) := ⟨clIn1, nmX1, tyX1_ok, rfl, by decide +kernel, by decide +kernel⟩
theorem clIn2 : ∀ w ∈ u_ws RX2 TX2 5, w ∈ lw_g := by decide +kernel
theorem clOk2 : clOk 2 (RX2, TX2, 5) := ⟨clIn2, nmX2, tyX2_ok, rfl, by decide +kernel, by decide +kernel⟩
theorem clIn3 : ∀ w ∈ u_ws RX3 TX3 8, w ∈ lw_g := by decide +kernel
theorem clOk3 : clOk 3 (RX3, TX3, 8) := ⟨clIn3, nmX3, tyX3_ok, rfl, by decide +kernel, by decide +kernel⟩
theorem clIn4 : ∀ w ∈ u_ws RX4 TX4 6, w ∈ lw_g := by decide +kernel
theorem clOk4 : clOk 4 (RX4, TX4, 6) := ⟨clIn4, nmX4, tyX4_ok, rfl, by decide +kernel, by decide +kernel⟩
theorem clIn5 : ∀ w ∈ u_ws RX5 TX5 1, w ∈ lw_g := by decide +kernel
theorem clOk5 : clOk 5 (RX5, TX5, 1) := ⟨clIn5, nmX5, tyX5_ok, rfl, by decide +kernel, by decide +kernel⟩
theorem clIn6 : ∀ w ∈ u_ws RX6 TX6 3, w ∈ lw_g := by decide +kernel
theorem clOk6 : clOk 6 (RX6, TX6, 3) := ⟨clIn6, nmX6, tyX6_ok, rfl, by decide +kernel, by decide +kernel⟩
theorem clIn7 : ∀ w ∈ u_ws RX7 TX7 11, w ∈ lw_g := by decide +kernel
theorem clOk7 : clOk 7 (RX7, TX7, 11) := ⟨clIn7, nmX7, tyX7_ok, rfl, by decide +kernel, by decide +kernel⟩
theorem clIn8 : ∀ w ∈ u_ws RX8 TX8 7, w ∈ lw_g := by decide +kernel
theorem clOk8 : clOk 8 (RX8, TX8, 7) := ⟨clIn8, nmX8, tyX8_ok, rfl, by decide +kernel, by decide +kernel⟩
theorem clIn9 : ∀ w ∈ u_ws RX9 TX9 10, w ∈ lw_g := by decide +kernel
theorem clOk9 : clOk 9 (RX9, TX9, 10) := ⟨clIn9, nmX9, tyX9_ok, rfl, by decide +kernel, by decide +kernel⟩
theorem clIn10 : ∀ w ∈ u_ws RX10 TX10 5, w ∈ lw_g := by decide +kernel
theorem clOk10 : clOk 10 (RX10, TX10, 5) := ⟨clIn10, nmX10, tyX10_ok, rfl, by decide +kernel, by decide +kernel⟩
theorem clIn11 : ∀ w ∈ u_ws RX11 TX11 11, w ∈ lw_g := by decide +kernel
theorem clOk11 : clOk 11 (RX11, TX11, 11) := ⟨clIn11, nmX11, tyX11_ok, rfl, by decide +kernel, by decide +kernel⟩
theorem clIn12 : ∀ w ∈ u_ws RX12 TX12 59, w ∈ lw_g := by decide +kernel
theorem clOk12 : clOk 12 (RX12, TX12, 59) := ⟨clIn12, nmX12, tyX12_ok, rfl, by decide +kernel, by decide +kernel⟩
theorem cl_ok {c : Nat} {q : vw_C} (h : cl13[c]? = some q) : clOk c q := by
  match c, h with
  | 0, h => cases h; exact clOk0
  | 1, h => cases h; exact clOk1
  | 2, h => cases h; exact clOk2
  | 3, h => cases h; exact clOk3
  | 4, h => cases h; exact clOk4
  | 5, h => cases h; exact clOk5
  | 6, h => cases h; exact clOk6
  | 7, h => cases h; exact clOk7
  | 8, h => cases h; exact clOk8
  | 9, h => cases h; exact clOk9
  | 10, h => cases h; exact clOk10
  | 11, h => cases h; exact clOk11
  | 12, h => cases h; exact clOk12
  | n + 13, h => simp [cl13] at h
/-! cells by their kinds -/
theorem cellE_obj {B : Nat} {cid : Nat → ClassId} {h : AH} {a c : Nat} (hs : (hS h a).1 = 10 + c) : cellE B cid h a = .inr (c, (List.range (fN c)).map (fV B h a c)) := by
  have e : 10 + c - 10 = c := by omega
  simp only [cellE, hs, e]
  rw [if_neg (by omega), if_neg (by omega), if_neg (by omega), if_neg (by omega), if_neg (by omega)]
theorem cellE_1 {B : Nat} {cid : Nat → ClassId} {h : AH} {a : Nat} (hs : (hS h a).1 = 1) : cellE B cid h a = .inl (cid 1, (hS h a).2, .inl (hI h a)) := by simp [cellE, hs]
theorem cellE_2 {B : Nat} {cid : Nat → ClassId} {h : AH} {a : Nat} (hs : (hS h a).1 = 2) : cellE B cid h a = .inl (cid 2, (hS h a).2, .inl (hI h a)) := by simp [cellE, hs]
theorem cellE_3 {B : Nat} {cid : Nat → ClassId} {h : AH} {a : Nat} (hs : (hS h a).1 = 3) : cellE B cid h a = .inl (cid 3, (hS h a).2, .inl (hI h a)) := by simp [cellE, hs]
theorem cellE_4 {B : Nat} {cid : Nat → ClassId} {h : AH} {a : Nat} (hs : (hS h a).1 = 4) : cellE B cid h a = .inl (cid 4, (hS h a).2, .inr (.inl (hL h a))) := by simp [cellE, hs]
theorem cellE_q {B : Nat} {cid : Nat → ClassId} {h : AH} {a k : Nat} (hs : (hS h a).1 = k) (h1 : 5 ≤ k) (h2 : k < 10) : cellE B cid h a = .inl (cid k, (hS h a).2, .inr (.inr (.inr (.inr (fun i => rfo B (hR h a i)))))) := by
  simp only [cellE, hs]
  rw [if_neg (by omega), if_neg (by omega), if_neg (by omega), if_neg (by omega), if_pos h2]
theorem rel_at {B : Nat} {D : va_G} {cid : Nat → ClassId} {h : AH} {H : Heap} {a : Nat} (r : Rel B D cid h H) (hs : (hS h a).1 ≠ 0) : (1 ≤ a ∧ a < hN h) ∧ (wsOf B cid h)[a - 1]? = some (B + a, cellE B cid h a) := ⟨r.2.2 a hs, wsOf_at (r.2.2 a hs).1 (r.2.2 a hs).2⟩
theorem cv_pos {B : Nat} {adK : Nat → Nat} {a : Nat} (h : 1 ≤ a) : cv B adK (.ref a) = .ref (B + a) := by
  have : a ≠ 0 := by omega
  simp [cv, rfo, va_rf, this]
theorem fV_at {B : Nat} {h : AH} {a c k n : Nat} (hk : k < n) : ((List.range n).map (fV B h a c))[k]? = some (fV B h a c k) := by
  rw [List.getElem?_map, List.getElem?_range hk]; rfl
theorem fV_set {B : Nat} {h h' : AH} {a c k n : Nat} {v : Value} (ho : ∀ j, j ≠ k → fV B h' a c j = fV B h a c j) (hv : fV B h' a c k = v) : ((List.range n).map (fV B h a c)).set k v = (List.range n).map (fV B h' a c) := by
  apply List.ext_getElem?
  intro j
  by_cases e : j = k
  · subst e
    by_cases hl : j < n
    · rw [List.getElem?_set_self (by simpa using hl), fV_at hl, hv]
    · rw [List.getElem?_eq_none (by simp; omega), List.getElem?_eq_none (by simp; omega)]
  · rw [List.getElem?_set_ne (Ne.symm e)]
    by_cases hl : j < n
    · rw [fV_at hl, fV_at hl, ho j e]
    · rw [List.getElem?_eq_none (by simp; omega), List.getElem?_eq_none (by simp; omega)]
def refTy : FieldType → Bool
  | .object _ => true
  | .array _ => true
  | _ => false
theorem fV_int {B : Nat} {h : AH} {a c k : Nat} (ht : fTy c k = .int ∨ fTy c k = .boolean) : fV B h a c k = .int (hI h a k) := by
  unfold fV
  rcases ht with ht | ht <;> rw [ht]
theorem fV_ref {B : Nat} {h : AH} {a c k : Nat} (ht : refTy (fTy c k) = true) : fV B h a c k = va_rf (rfo B (hR h a k)) := by
  unfold fV
  cases hq : fTy c k <;> rw [hq] at ht <;> simp [refTy] at ht <;> rfl
theorem hI_sI_o {h : AH} {a i j : Nat} {x : Int32} (e : j ≠ i) : hI (sI h a i x) a j = hI h a j := by simp [hI, sI, up2, e]
theorem hI_sI_s {h : AH} {a i : Nat} {x : Int32} : hI (sI h a i x) a i = x := by simp [hI, sI, up2]
theorem hR_sR_o {h : AH} {a i j : Nat} {x : Nat} (e : j ≠ i) : hR (sR h a i x) a j = hR h a j := by simp [hR, sR, up2, e]
theorem hR_sR_s {h : AH} {a i : Nat} {x : Nat} : hR (sR h a i x) a i = x := by simp [hR, sR, up2]
theorem wf_sI {h : AH} {a i : Nat} {x : Int32} (w : wfH h) : wfH (sI h a i x) := w
theorem cellE_sI_ne {B : Nat} {cid : Nat → ClassId} {h : AH} {a i b : Nat} {x : Int32} (e : b ≠ a) : cellE B cid (sI h a i x) b = cellE B cid h b := cellE_congr rfl (hI_sI_ne e) rfl rfl
theorem cellE_sL_ne {B : Nat} {cid : Nat → ClassId} {h : AH} {a i b : Nat} {x : Int64} (e : b ≠ a) : cellE B cid (sL h a i x) b = cellE B cid h b := cellE_congr rfl rfl (hL_sL_ne e) rfl
theorem cellE_sR_ne {B : Nat} {cid : Nat → ClassId} {h : AH} {a i b : Nat} {x : Nat} (e : b ≠ a) : cellE B cid (sR h a i x) b = cellE B cid h b := cellE_congr rfl rfl rfl (hR_sR_ne e)
theorem fV_sI_o {B : Nat} {h : AH} {a i c j : Nat} {x : Int32} (e : j ≠ i) : fV B (sI h a i x) a c j = fV B h a c j := by
  unfold fV
  rw [hI_sI_o e]; rfl
theorem fV_sR_o {B : Nat} {h : AH} {a i c j : Nat} {x : Nat} (e : j ≠ i) : fV B (sR h a i x) a c j = fV B h a c j := by
  unfold fV
  rw [hR_sR_o e]; rfl
theorem st_getI {X : CX} {M : MX} (C : Ctx X M) {pc : Nat} {L st : List Value} {h : AH} {a ci k i : Nat} {q : vw_C} (hd : decode M.2.1 pc = .ok (.getfield i, 3)) (hq : cl13[ci]? = some q) (hk : k < q.2.2) (hw : Cond.fieldLink M.1 i (q.2.1 k).1 (q.2.1 k).2.1 (q.2.1 k).2.2.1 ∈ lw_g) (ht : fTy ci k = .int ∨ fTy ci k = .boolean) (hs : (hS h a).1 = 10 + ci) (kk : Wst X (pc + 3, L, .int (hI h a k) :: st) h) : Wst X (pc, L, .ref a :: st) h := by
  obtain ⟨⟨p, l, e, R, s, m, args, below, meth, c, Qm⟩, ⟨B, D, cid, adK, adV⟩, ⟨nL, n0, u0, E1, E2⟩⟩ := X
  obtain ⟨own, cc, mname, dep, scr⟩ := M
  obtain ⟨hx, hb, hml, hown, hts, hK, hstr, hsz, hnm, hroom, hscr⟩ := C
  intro H locs ls r1 r2 r3 r4
  obtain ⟨hin, hn1, hty, hfn, -⟩ := cl_ok hq
  obtain ⟨ha, hat⟩ := rel_at r1 (by omega : (hS h a).1 ≠ 0)
  rw [cellE_obj hs, hfn] at hat
  simp only [List.map_cons, cv_pos ha.1]
  exact va_get hx hb hts hin hown hK r1.1 (a - 1) hat hq k hk (hts _ hw) (fun x h => h) (by rw [fV_at hk, fV_int ht]; rfl) hd (kk H locs ls r1 r2 r3 r4)
theorem st_getR {X : CX} {M : MX} (C : Ctx X M) {pc : Nat} {L st : List Value} {h : AH} {a ci k i : Nat} {q : vw_C} (hd : decode M.2.1 pc = .ok (.getfield i, 3)) (hq : cl13[ci]? = some q) (hk : k < q.2.2) (hw : Cond.fieldLink M.1 i (q.2.1 k).1 (q.2.1 k).2.1 (q.2.1 k).2.2.1 ∈ lw_g) (ht : refTy (fTy ci k) = true) (hs : (hS h a).1 = 10 + ci) (kk : Wst X (pc + 3, L, .ref (hR h a k) :: st) h) : Wst X (pc, L, .ref a :: st) h := by
  obtain ⟨⟨p, l, e, R, s, m, args, below, meth, c, Qm⟩, ⟨B, D, cid, adK, adV⟩, ⟨nL, n0, u0, E1, E2⟩⟩ := X
  obtain ⟨own, cc, mname, dep, scr⟩ := M
  obtain ⟨hx, hb, hml, hown, hts, hK, hstr, hsz, hnm, hroom, hscr⟩ := C
  intro H locs ls r1 r2 r3 r4
  obtain ⟨hin, hn1, hty, hfn, -⟩ := cl_ok hq
  obtain ⟨ha, hat⟩ := rel_at r1 (by omega : (hS h a).1 ≠ 0)
  rw [cellE_obj hs, hfn] at hat
  simp only [List.map_cons, cv_pos ha.1]
  exact va_get hx hb hts hin hown hK r1.1 (a - 1) hat hq k hk (hts _ hw) (fun x h => h) (by rw [fV_at hk, fV_ref ht]; rfl) hd (kk H locs ls r1 r2 r3 r4)
theorem rel_putI {B : Nat} {D : va_G} {cid : Nat → ClassId} {h : AH} {H1 : Heap} {a ci k n : Nat} {x : Int32} (w : wfH h) (ha : 1 ≤ a) (hs : (hS h a).1 = 10 + ci) (hfn : fN ci = n) (ht : fTy ci k = .int ∨ fTy ci k = .boolean) (g : va_P D cl13 ((wsOf B cid h).set (a - 1) (B + a, .inr (ci, ((List.range n).map (fV B h a ci)).set k (.int x)))) H1) : Rel B D cid (sI h a k x) H1 := by
  refine ⟨?_, w⟩
  rw [fV_set (h' := sI h a k x) (fun j hj => fV_sI_o hj) (by rw [fV_int ht, hI_sI_s])] at g
  rw [wsOf_set (B := B) (cid := cid) (h := h) (h' := sI h a k x) ha rfl (fun b hb => cellE_sI_ne hb) (by rw [cellE_obj (c := ci) (show (hS (sI h a k x) a).1 = 10 + ci from hs), hfn])] at g
  exact g
theorem rel_putR {B : Nat} {D : va_G} {cid : Nat → ClassId} {h : AH} {H1 : Heap} {a ci k n : Nat} {x : Nat} (w : wfH h) (ha : 1 ≤ a) (hs : (hS h a).1 = 10 + ci) (hfn : fN ci = n) (ht : refTy (fTy ci k) = true) (g : va_P D cl13 ((wsOf B cid h).set (a - 1) (B + a, .inr (ci, ((List.range n).map (fV B h a ci)).set k (va_rf (rfo B x))))) H1) : Rel B D cid (sR h a k x) H1 := by
  refine ⟨?_, w⟩
  rw [fV_set (h' := sR h a k x) (fun j hj => fV_sR_o hj) (by rw [fV_ref ht, hR_sR_s])] at g
  rw [wsOf_set (B := B) (cid := cid) (h := h) (h' := sR h a k x) ha rfl (fun b hb => cellE_sR_ne hb) (by rw [cellE_obj (c := ci) (show (hS (sR h a k x) a).1 = 10 + ci from hs), hfn])] at g
  exact g
theorem nar_ok {ty : FieldType} {x : Int32} (ht : ty = .int ∨ ty = .boolean ∧ (x = 0 ∨ x = 1)) : narrow ty (.int x) = .int x ∧ fits ty (.int x) = true := by
  rcases ht with rfl | ⟨rfl, rfl | rfl⟩ <;> exact ⟨rfl, rfl⟩
theorem nar_ref {ty : FieldType} {r : Option Nat} (ht : refTy ty = true) : narrow ty (va_rf r) = va_rf r ∧ fits ty (va_rf r) = true := by
  cases r <;> cases ty <;> simp [refTy] at ht <;> exact ⟨rfl, rfl⟩
theorem st_putI {X : CX} {M : MX} (C : Ctx X M) {pc : Nat} {L st : List Value} {h : AH} {a ci k i : Nat} {x : Int32} {q : vw_C} (hd : decode M.2.1 pc = .ok (.putfield i, 3)) (hq : cl13[ci]? = some q) (hk : k < q.2.2) (hw : Cond.fieldLink M.1 i (q.2.1 k).1 (q.2.1 k).2.1 (q.2.1 k).2.2.1 ∈ lw_g) (hf : (q.2.1 k).2.2.2 = false) (ht : fTy ci k = .int ∨ fTy ci k = .boolean ∧ (x = 0 ∨ x = 1)) (hs : (hS h a).1 = 10 + ci) (kk : Wst X (pc + 3, L, st) (sI h a k x)) : Wst X (pc, L, .int x :: .ref a :: st) h := by
  obtain ⟨⟨p, l, e, R, s, m, args, below, meth, c, Qm⟩, ⟨B, D, cid, adK, adV⟩, ⟨nL, n0, u0, E1, E2⟩⟩ := X
  obtain ⟨own, cc, mname, dep, scr⟩ := M
  obtain ⟨hx, hb, hml, hown, hts, hK, hstr, hsz, hnm, hroom, hscr⟩ := C
  intro H locs ls r1 r2 r3 r4
  obtain ⟨hin, hn1, hty, hfn, -⟩ := cl_ok hq
  obtain ⟨ha, hat⟩ := rel_at r1 (by omega : (hS h a).1 ≠ 0)
  rw [cellE_obj hs, hfn] at hat
  simp only [List.map_cons, cv_pos ha.1]
  exact va_put hx hb hts hin (fTy ci) hty hn1 hown hK r1.1 (wsOf_D B cid h) r2 (a - 1) hat hq k hk (hts _ hw) (fun x h => h) hf (hty k hk) (nar_ok ht).1 (nar_ok ht).2 (by simpa using hk) hd
    (fun H1 locs1 g1 g2 g3 => kk H1 locs1 ls (rel_putI r1.2 ha.1 hs hfn (ht.imp id And.left) g1) g3 r3 r4)
theorem st_putR {X : CX} {M : MX} (C : Ctx X M) {pc : Nat} {L st : List Value} {h : AH} {a ci k i x : Nat} {q : vw_C} (hd : decode M.2.1 pc = .ok (.putfield i, 3)) (hq : cl13[ci]? = some q) (hk : k < q.2.2) (hw : Cond.fieldLink M.1 i (q.2.1 k).1 (q.2.1 k).2.1 (q.2.1 k).2.2.1 ∈ lw_g) (hf : (q.2.1 k).2.2.2 = false) (ht : refTy (fTy ci k) = true) (hs : (hS h a).1 = 10 + ci) (kk : Wst X (pc + 3, L, st) (sR h a k x)) : Wst X (pc, L, .ref x :: .ref a :: st) h := by
  obtain ⟨⟨p, l, e, R, s, m, args, below, meth, c, Qm⟩, ⟨B, D, cid, adK, adV⟩, ⟨nL, n0, u0, E1, E2⟩⟩ := X
  obtain ⟨own, cc, mname, dep, scr⟩ := M
  obtain ⟨hx, hb, hml, hown, hts, hK, hstr, hsz, hnm, hroom, hscr⟩ := C
  intro H locs ls r1 r2 r3 r4
  obtain ⟨hin, hn1, hty, hfn, -⟩ := cl_ok hq
  obtain ⟨ha, hat⟩ := rel_at r1 (by omega : (hS h a).1 ≠ 0)
  rw [cellE_obj hs, hfn] at hat
  simp only [List.map_cons, cv_pos ha.1]
  exact va_put (v := va_rf (rfo B x)) hx hb hts hin (fTy ci) hty hn1 hown hK r1.1 (wsOf_D B cid h) r2 (a - 1) hat hq k hk (hts _ hw) (fun x h => h) hf (hty k hk) (nar_ref ht).1 (nar_ref ht).2 (by simpa using hk) hd
    (fun H1 locs1 g1 g2 g3 => kk H1 locs1 ls (rel_putR r1.2 ha.1 hs hfn ht g1) g3 r3 r4)
theorem st_putRF {X : CX} {M : MX} (C : Ctx X M) {pc : Nat} {L st : List Value} {h : AH} {a ci k i x : Nat} {q : vw_C} (hd : decode M.2.1 pc = .ok (.putfield i, 3)) (hq : cl13[ci]? = some q) (hk : k < q.2.2) (hw : Cond.fieldLink M.1 i (q.2.1 k).1 (q.2.1 k).2.1 (q.2.1 k).2.2.1 ∈ lw_g) (hf : (q.2.1 k).2.2.2 = true) (hi : M.2.2.1 = "<init>") (ho : (q.2.1 k).1 = M.1) (ht : refTy (fTy ci k) = true) (hs : (hS h a).1 = 10 + ci) (kk : Wst X (pc + 3, L, st) (sR h a k x)) : Wst X (pc, L, .ref x :: .ref a :: st) h := by
  obtain ⟨⟨p, l, e, R, s, m, args, below, meth, c, Qm⟩, ⟨B, D, cid, adK, adV⟩, ⟨nL, n0, u0, E1, E2⟩⟩ := X
  obtain ⟨own, cc, mname, dep, scr⟩ := M
  obtain ⟨hx, hb, hml, hown, hts, hK, hstr, hsz, hnm, hroom, hscr⟩ := C
  intro H locs ls r1 r2 r3 r4
  obtain ⟨hin, hn1, hty, hfn, -⟩ := cl_ok hq
  obtain ⟨ha, hat⟩ := rel_at r1 (by omega : (hS h a).1 ≠ 0)
  rw [cellE_obj hs, hfn] at hat
  simp only [List.map_cons, cv_pos ha.1]
  exact va_putF (v := va_rf (rfo B x)) hx hb hts hin (fTy ci) hty hn1 hown hK r1.1 (wsOf_D B cid h) r2 (a - 1) hat hq k hk (hts _ hw) (fun x h => h) hf (hnm.trans hi) ho (hty k hk) (nar_ref ht).1 (nar_ref ht).2 (by simpa using hk) hd
    (fun H1 locs1 g1 g2 g3 => kk H1 locs1 ls (rel_putR r1.2 ha.1 hs hfn ht g1) g3 r3 r4)
theorem st_putIF {X : CX} {M : MX} (C : Ctx X M) {pc : Nat} {L st : List Value} {h : AH} {a ci k i : Nat} {x : Int32} {q : vw_C} (hd : decode M.2.1 pc = .ok (.putfield i, 3)) (hq : cl13[ci]? = some q) (hk : k < q.2.2) (hw : Cond.fieldLink M.1 i (q.2.1 k).1 (q.2.1 k).2.1 (q.2.1 k).2.2.1 ∈ lw_g) (hf : (q.2.1 k).2.2.2 = true) (hi : M.2.2.1 = "<init>") (ho : (q.2.1 k).1 = M.1) (ht : fTy ci k = .int ∨ fTy ci k = .boolean ∧ (x = 0 ∨ x = 1)) (hs : (hS h a).1 = 10 + ci) (kk : Wst X (pc + 3, L, st) (sI h a k x)) : Wst X (pc, L, .int x :: .ref a :: st) h := by
  obtain ⟨⟨p, l, e, R, s, m, args, below, meth, c, Qm⟩, ⟨B, D, cid, adK, adV⟩, ⟨nL, n0, u0, E1, E2⟩⟩ := X
  obtain ⟨own, cc, mname, dep, scr⟩ := M
  obtain ⟨hx, hb, hml, hown, hts, hK, hstr, hsz, hnm, hroom, hscr⟩ := C
  intro H locs ls r1 r2 r3 r4
  obtain ⟨hin, hn1, hty, hfn, -⟩ := cl_ok hq
  obtain ⟨ha, hat⟩ := rel_at r1 (by omega : (hS h a).1 ≠ 0)
  rw [cellE_obj hs, hfn] at hat
  simp only [List.map_cons, cv_pos ha.1]
  exact va_putF hx hb hts hin (fTy ci) hty hn1 hown hK r1.1 (wsOf_D B cid h) r2 (a - 1) hat hq k hk (hts _ hw) (fun x h => h) hf (hnm.trans hi) ho (hty k hk) (nar_ok ht).1 (nar_ok ht).2 (by simpa using hk) hd
    (fun H1 locs1 g1 g2 g3 => kk H1 locs1 ls (rel_putI r1.2 ha.1 hs hfn (ht.imp id And.left) g1) g3 r3 r4)
theorem st_iald {X : CX} {M : MX} (C : Ctx X M) {pc : Nat} {L st : List Value} {h : AH} {a : Nat} {i : Int32} (hd : decode M.2.1 pc = .ok (.iaload, 1)) (hs : (hS h a).1 = 1) (hi : vp_in i (hS h a).2) (kk : Wst X (pc + 1, L, .int (hI h a i.toNatClampNeg) :: st) h) : Wst X (pc, L, .int i :: .ref a :: st) h := by
  obtain ⟨⟨p, l, e, R, s, m, args, below, meth, c, Qm⟩, ⟨B, D, cid, adK, adV⟩, ⟨nL, n0, u0, E1, E2⟩⟩ := X
  obtain ⟨own, cc, mname, dep, scr⟩ := M
  obtain ⟨hx, hb, hml, hown, hts, hK, hstr, hsz, hnm, hroom, hscr⟩ := C
  intro H locs ls r1 r2 r3 r4
  obtain ⟨ha, hat⟩ := rel_at r1 (by omega : (hS h a).1 ≠ 0)
  rw [cellE_1 hs] at hat
  simp only [List.map_cons, cv_pos ha.1]
  exact va_iald hx hb hK r1.1 (a - 1) 0 hat rfl hi hd (kk H locs ls r1 r2 r3 r4)
theorem st_bald {X : CX} {M : MX} (C : Ctx X M) {pc : Nat} {L st : List Value} {h : AH} {a : Nat} {i : Int32} (hd : decode M.2.1 pc = .ok (.baload, 1)) (hs : (hS h a).1 = 2) (hi : vp_in i (hS h a).2) (kk : Wst X (pc + 1, L, .int (hI h a i.toNatClampNeg) :: st) h) : Wst X (pc, L, .int i :: .ref a :: st) h := by
  obtain ⟨⟨p, l, e, R, s, m, args, below, meth, c, Qm⟩, ⟨B, D, cid, adK, adV⟩, ⟨nL, n0, u0, E1, E2⟩⟩ := X
  obtain ⟨own, cc, mname, dep, scr⟩ := M
  obtain ⟨hx, hb, hml, hown, hts, hK, hstr, hsz, hnm, hroom, hscr⟩ := C
  intro H locs ls r1 r2 r3 r4
  obtain ⟨ha, hat⟩ := rel_at r1 (by omega : (hS h a).1 ≠ 0)
  rw [cellE_2 hs] at hat
  simp only [List.map_cons, cv_pos ha.1]
  exact va_bald hx hb hK r1.1 (a - 1) 1 hat rfl hi hd (kk H locs ls r1 r2 r3 r4)
theorem st_zald {X : CX} {M : MX} (C : Ctx X M) {pc : Nat} {L st : List Value} {h : AH} {a : Nat} {i : Int32} (hd : decode M.2.1 pc = .ok (.baload, 1)) (hs : (hS h a).1 = 3) (hi : vp_in i (hS h a).2) (kk : Wst X (pc + 1, L, .int (hI h a i.toNatClampNeg) :: st) h) : Wst X (pc, L, .int i :: .ref a :: st) h := by
  obtain ⟨⟨p, l, e, R, s, m, args, below, meth, c, Qm⟩, ⟨B, D, cid, adK, adV⟩, ⟨nL, n0, u0, E1, E2⟩⟩ := X
  obtain ⟨own, cc, mname, dep, scr⟩ := M
  obtain ⟨hx, hb, hml, hown, hts, hK, hstr, hsz, hnm, hroom, hscr⟩ := C
  intro H locs ls r1 r2 r3 r4
  obtain ⟨ha, hat⟩ := rel_at r1 (by omega : (hS h a).1 ≠ 0)
  rw [cellE_3 hs] at hat
  simp only [List.map_cons, cv_pos ha.1]
  exact va_zald hx hb hK r1.1 (a - 1) 2 hat rfl hi hd (kk H locs ls r1 r2 r3 r4)
theorem st_lald {X : CX} {M : MX} (C : Ctx X M) {pc : Nat} {L st : List Value} {h : AH} {a : Nat} {i : Int32} (hd : decode M.2.1 pc = .ok (.laload, 1)) (hs : (hS h a).1 = 4) (hi : vp_in i (hS h a).2) (kk : Wst X (pc + 1, L, .long (hL h a i.toNatClampNeg) :: st) h) : Wst X (pc, L, .int i :: .ref a :: st) h := by
  obtain ⟨⟨p, l, e, R, s, m, args, below, meth, c, Qm⟩, ⟨B, D, cid, adK, adV⟩, ⟨nL, n0, u0, E1, E2⟩⟩ := X
  obtain ⟨own, cc, mname, dep, scr⟩ := M
  obtain ⟨hx, hb, hml, hown, hts, hK, hstr, hsz, hnm, hroom, hscr⟩ := C
  intro H locs ls r1 r2 r3 r4
  obtain ⟨ha, hat⟩ := rel_at r1 (by omega : (hS h a).1 ≠ 0)
  rw [cellE_4 hs] at hat
  simp only [List.map_cons, cv_pos ha.1]
  exact va_lald hx hb hK r1.1 (a - 1) 3 hat rfl hi hd (kk H locs ls r1 r2 r3 r4)
theorem st_iast {X : CX} {M : MX} (C : Ctx X M) {pc : Nat} {L st : List Value} {h : AH} {a : Nat} {i : Int32} {x : Int32} (hd : decode M.2.1 pc = .ok (.iastore, 1)) (hs : (hS h a).1 = 1) (hi : vp_in i (hS h a).2) (kk : Wst X (pc + 1, L, st) (sI h a i.toNatClampNeg (x))) : Wst X (pc, L, .int x :: .int i :: .ref a :: st) h := by
  obtain ⟨⟨p, l, e, R, s, m, args, below, meth, c, Qm⟩, ⟨B, D, cid, adK, adV⟩, ⟨nL, n0, u0, E1, E2⟩⟩ := X
  obtain ⟨own, cc, mname, dep, scr⟩ := M
  obtain ⟨hx, hb, hml, hown, hts, hK, hstr, hsz, hnm, hroom, hscr⟩ := C
  intro H locs ls r1 r2 r3 r4
  obtain ⟨ha, hat⟩ := rel_at r1 (by omega : (hS h a).1 ≠ 0)
  rw [cellE_1 hs] at hat
  simp only [List.map_cons, cv_pos ha.1]
  refine va_iast hx hb hK r1.1 (wsOf_D B cid h) r2 (a - 1) 0 hat rfl hi hd (fun H1 locs1 g1 g2 g3 => kk H1 locs1 ls ⟨?_, r1.2⟩ g3 r3 r4)
  rw [wsOf_set (B := B) (cid := cid) (h := h) (h' := sI h a i.toNatClampNeg (x)) ha.1 rfl (fun b hb => cellE_sI_ne hb) (by rw [cellE_1 (show (hS (sI h a i.toNatClampNeg (x)) a).1 = 1 from hs), hI_sI_same]; rfl)] at g1
  exact g1
theorem st_bast {X : CX} {M : MX} (C : Ctx X M) {pc : Nat} {L st : List Value} {h : AH} {a : Nat} {i : Int32} {x : Int32} (hd : decode M.2.1 pc = .ok (.bastore, 1)) (hs : (hS h a).1 = 2) (hi : vp_in i (hS h a).2) (kk : Wst X (pc + 1, L, st) (sI h a i.toNatClampNeg (vp_nar .byte x))) : Wst X (pc, L, .int x :: .int i :: .ref a :: st) h := by
  obtain ⟨⟨p, l, e, R, s, m, args, below, meth, c, Qm⟩, ⟨B, D, cid, adK, adV⟩, ⟨nL, n0, u0, E1, E2⟩⟩ := X
  obtain ⟨own, cc, mname, dep, scr⟩ := M
  obtain ⟨hx, hb, hml, hown, hts, hK, hstr, hsz, hnm, hroom, hscr⟩ := C
  intro H locs ls r1 r2 r3 r4
  obtain ⟨ha, hat⟩ := rel_at r1 (by omega : (hS h a).1 ≠ 0)
  rw [cellE_2 hs] at hat
  simp only [List.map_cons, cv_pos ha.1]
  refine va_bast hx hb hK r1.1 (wsOf_D B cid h) r2 (a - 1) 1 hat rfl hi hd (fun H1 locs1 g1 g2 g3 => kk H1 locs1 ls ⟨?_, r1.2⟩ g3 r3 r4)
  rw [wsOf_set (B := B) (cid := cid) (h := h) (h' := sI h a i.toNatClampNeg (vp_nar .byte x)) ha.1 rfl (fun b hb => cellE_sI_ne hb) (by rw [cellE_2 (show (hS (sI h a i.toNatClampNeg (vp_nar .byte x)) a).1 = 2 from hs), hI_sI_same]; rfl)] at g1
  exact g1
theorem st_zast {X : CX} {M : MX} (C : Ctx X M) {pc : Nat} {L st : List Value} {h : AH} {a : Nat} {i : Int32} {x : Int32} (hd : decode M.2.1 pc = .ok (.bastore, 1)) (hs : (hS h a).1 = 3) (hi : vp_in i (hS h a).2) (kk : Wst X (pc + 1, L, st) (sI h a i.toNatClampNeg (vp_nar .boolean x))) : Wst X (pc, L, .int x :: .int i :: .ref a :: st) h := by
  obtain ⟨⟨p, l, e, R, s, m, args, below, meth, c, Qm⟩, ⟨B, D, cid, adK, adV⟩, ⟨nL, n0, u0, E1, E2⟩⟩ := X
  obtain ⟨own, cc, mname, dep, scr⟩ := M
  obtain ⟨hx, hb, hml, hown, hts, hK, hstr, hsz, hnm, hroom, hscr⟩ := C
  intro H locs ls r1 r2 r3 r4
  obtain ⟨ha, hat⟩ := rel_at r1 (by omega : (hS h a).1 ≠ 0)
  rw [cellE_3 hs] at hat
  simp only [List.map_cons, cv_pos ha.1]
  refine va_zast hx hb hK r1.1 (wsOf_D B cid h) r2 (a - 1) 2 hat rfl hi hd (fun H1 locs1 g1 g2 g3 => kk H1 locs1 ls ⟨?_, r1.2⟩ g3 r3 r4)
  rw [wsOf_set (B := B) (cid := cid) (h := h) (h' := sI h a i.toNatClampNeg (vp_nar .boolean x)) ha.1 rfl (fun b hb => cellE_sI_ne hb) (by rw [cellE_3 (show (hS (sI h a i.toNatClampNeg (vp_nar .boolean x)) a).1 = 3 from hs), hI_sI_same]; rfl)] at g1
  exact g1
theorem st_last {X : CX} {M : MX} (C : Ctx X M) {pc : Nat} {L st : List Value} {h : AH} {a : Nat} {i : Int32} {x : Int64} (hd : decode M.2.1 pc = .ok (.lastore, 1)) (hs : (hS h a).1 = 4) (hi : vp_in i (hS h a).2) (kk : Wst X (pc + 1, L, st) (sL h a i.toNatClampNeg (x))) : Wst X (pc, L, .long x :: .int i :: .ref a :: st) h := by
  obtain ⟨⟨p, l, e, R, s, m, args, below, meth, c, Qm⟩, ⟨B, D, cid, adK, adV⟩, ⟨nL, n0, u0, E1, E2⟩⟩ := X
  obtain ⟨own, cc, mname, dep, scr⟩ := M
  obtain ⟨hx, hb, hml, hown, hts, hK, hstr, hsz, hnm, hroom, hscr⟩ := C
  intro H locs ls r1 r2 r3 r4
  obtain ⟨ha, hat⟩ := rel_at r1 (by omega : (hS h a).1 ≠ 0)
  rw [cellE_4 hs] at hat
  simp only [List.map_cons, cv_pos ha.1]
  refine va_last hx hb hK r1.1 (wsOf_D B cid h) r2 (a - 1) 3 hat rfl hi hd (fun H1 locs1 g1 g2 g3 => kk H1 locs1 ls ⟨?_, r1.2⟩ g3 r3 r4)
  rw [wsOf_set (B := B) (cid := cid) (h := h) (h' := sL h a i.toNatClampNeg (x)) ha.1 rfl (fun b hb => cellE_sL_ne hb) (by rw [cellE_4 (show (hS (sL h a i.toNatClampNeg (x)) a).1 = 4 from hs), hL_sL_same]; rfl)] at g1
  exact g1
/-- the component type of an array of references, by its kind -/
def qTy (k : Nat) : FieldType := if k = 5 then .object RX6 else if k = 6 then .object RX9 else if k = 7 then .object RX4 else .array .int
theorem tys_q {cid : Nat → ClassId} {k : Nat} (h1 : 5 ≤ k) (h2 : k ≤ 8) : (tysOf cid)[k - 1]? = some (cid k, qTy k) := by
  rcases (by omega : k = 5 ∨ k = 6 ∨ k = 7 ∨ k = 8) with rfl | rfl | rfl | rfl <;> rfl
theorem qTy_ref {k : Nat} (h1 : 5 ≤ k) (h2 : k ≤ 8) : (qTy k).isReference = true := by
  rcases (by omega : k = 5 ∨ k = 6 ∨ k = 7 ∨ k = 8) with rfl | rfl | rfl | rfl <;> rfl
theorem st_aald {X : CX} {M : MX} (C : Ctx X M) {pc : Nat} {L st : List Value} {h : AH} {a k : Nat} {i : Int32} (hd : decode M.2.1 pc = .ok (.aaload, 1)) (hs : (hS h a).1 = k) (h1 : 5 ≤ k) (h2 : k ≤ 8) (hi : vp_in i (hS h a).2) (kk : Wst X (pc + 1, L, .ref (hR h a i.toNatClampNeg) :: st) h) : Wst X (pc, L, .int i :: .ref a :: st) h := by
  obtain ⟨⟨p, l, e, R, s, m, args, below, meth, c, Qm⟩, ⟨B, D, cid, adK, adV⟩, ⟨nL, n0, u0, E1, E2⟩⟩ := X
  obtain ⟨own, cc, mname, dep, scr⟩ := M
  obtain ⟨hx, hb, hml, hown, hts, hK, hstr, hsz, hnm, hroom, hscr⟩ := C
  intro H locs ls r1 r2 r3 r4
  obtain ⟨ha, hat⟩ := rel_at r1 (by omega : (hS h a).1 ≠ 0)
  rw [cellE_q hs h1 (by omega)] at hat
  simp only [List.map_cons, cv_pos ha.1]
  have hlt : i.toNatClampNeg < (hS h a).2 := Nat.not_le.mp fun q => hi (Or.inr q)
  exact W.aald (v := va_rf (rfo B (hR h a i.toNatClampNeg))) (ty := qTy k) hx hb (r1.1 (a - 1) _ hat) ((hK.2 (k - 1) _ (tys_q h1 h2)).1 (hS h a).2 (fun j => va_rf (rfo B (hR h a j)))) (qTy_ref h1 h2) (fun q => by cases q) (by show ¬ (i < 0 ∨ (arrV _ _ _).slots.size ≤ _); rw [arrV_size]; exact hi) (by show (arrV _ _ _).slots[_]? = _; rw [arrV_read _ _ hlt]) rfl rfl hd (kk H locs ls r1 r2 r3 r4)
/-- the class of the objects of an array of references, by its kind -/
def qCl (k : Nat) : Nat := if k = 5 then 6 else if k = 6 then 9 else 4
theorem up_rfo {B : Nat} {h : AH} {a i v : Nat} (hv : 1 ≤ v) : (fun j => rfo B (hR (sR h a i v) a j)) = va_up (fun j => rfo B (hR h a j)) i (some (B + v)) := by
  funext j
  by_cases e : j = i
  · subst e
    have : v ≠ 0 := by omega
    simp [va_up, hR_sR_s, rfo, this]
  · simp [va_up, e, hR_sR_o e]
theorem st_aast {X : CX} {M : MX} (C : Ctx X M) {pc : Nat} {L st : List Value} {h : AH} {a k v : Nat} {i : Int32} (hd : decode M.2.1 pc = .ok (.aastore, 1)) (hs : (hS h a).1 = k) (h1 : 5 ≤ k) (h2 : k ≤ 7) (hi : vp_in i (hS h a).2) (hv : (hS h v).1 = 10 + qCl k) (kk : Wst X (pc + 1, L, st) (sR h a i.toNatClampNeg v)) : Wst X (pc, L, .ref v :: .int i :: .ref a :: st) h := by
  obtain ⟨⟨p, l, e, R, s, m, args, below, meth, c, Qm⟩, ⟨B, D, cid, adK, adV⟩, ⟨nL, n0, u0, E1, E2⟩⟩ := X
  obtain ⟨own, cc, mname, dep, scr⟩ := M
  obtain ⟨hx, hb, hml, hown, hts, hK, hstr, hsz, hnm, hroom, hscr⟩ := C
  intro H locs ls r1 r2 r3 r4
  obtain ⟨ha, hat⟩ := rel_at r1 (by omega : (hS h a).1 ≠ 0)
  obtain ⟨hva, hvt⟩ := rel_at r1 (by omega : (hS h v).1 ≠ 0)
  rw [cellE_q hs h1 (by omega)] at hat
  rw [cellE_obj hv] at hvt
  simp only [List.map_cons, cv_pos ha.1, cv_pos hva.1]
  have key : ∀ (H1 : Heap) (locs1 : List Loc), va_P D cl13 ((wsOf B cid h).set (a - 1) (B + a, .inl (cid k, (hS h a).2, .inr (.inr (.inr (.inr (va_up (fun j => rfo B (hR h a j)) i.toNatClampNeg (some (B + v)))))))) ) H1 → va_S (AB B) s.heap H1 locs1 → W p l e R s m args below meth c H1 locs1 (hN h - n0) (hU h - u0) Qm (F0 m (pc + 1) ls (st.map (cv B adK))) := fun H1 locs1 g1 g3 => by
    refine kk H1 locs1 ls ⟨?_, r1.2⟩ g3 r3 r4
    rw [← up_rfo hva.1, wsOf_set (B := B) (cid := cid) (h := h) (h' := sR h a i.toNatClampNeg v) ha.1 rfl (fun b hb => cellE_sR_ne hb) (by rw [cellE_q (k := k) (show (hS (sR h a i.toNatClampNeg v) a).1 = k from hs) h1 (by omega)]; rfl)] at g1
    exact g1
  rcases (by omega : k = 5 ∨ k = 6 ∨ k = 7) with rfl | rfl | rfl
  · exact va_astq (r := (RX6, TX6, 3)) hx hb hK r1.1 (wsOf_D B cid h) r2 (a - 1) 4 (v - 1) 6 hat rfl hvt rfl hi hd (fun H1 locs1 g1 g2 g3 => key H1 locs1 g1 g3)
  · exact va_astq (r := (RX9, TX9, 10)) hx hb hK r1.1 (wsOf_D B cid h) r2 (a - 1) 5 (v - 1) 9 hat rfl hvt rfl hi hd (fun H1 locs1 g1 g2 g3 => key H1 locs1 g1 g3)
  · exact va_astq (r := (RX4, TX4, 6)) hx hb hK r1.1 (wsOf_D B cid h) r2 (a - 1) 6 (v - 1) 4 hat rfl hvt rfl hi hd (fun H1 locs1 g1 g2 g3 => key H1 locs1 g1 g3)
theorem st_alen {X : CX} {M : MX} (C : Ctx X M) {pc : Nat} {L st : List Value} {h : AH} {a k : Nat} (hd : decode M.2.1 pc = .ok (.arraylength, 1)) (hs : (hS h a).1 = k) (h1 : 1 ≤ k) (h2 : k ≤ 8) (kk : Wst X (pc + 1, L, .int (Int32.ofNat (hS h a).2) :: st) h) : Wst X (pc, L, .ref a :: st) h := by
  obtain ⟨⟨p, l, e, R, s, m, args, below, meth, c, Qm⟩, ⟨B, D, cid, adK, adV⟩, ⟨nL, n0, u0, E1, E2⟩⟩ := X
  obtain ⟨own, cc, mname, dep, scr⟩ := M
  obtain ⟨hx, hb, hml, hown, hts, hK, hstr, hsz, hnm, hroom, hscr⟩ := C
  intro H locs ls r1 r2 r3 r4
  obtain ⟨ha, hat⟩ := rel_at r1 (by omega : (hS h a).1 ≠ 0)
  simp only [List.map_cons, cv_pos ha.1]
  rcases (by omega : k = 1 ∨ k = 2 ∨ k = 3 ∨ k = 4 ∨ 5 ≤ k) with rfl | rfl | rfl | rfl | h5
  · rw [cellE_1 hs] at hat
    exact va_alen hx hb hK r1.1 (a - 1) 0 hat rfl rfl hd (kk H locs ls r1 r2 r3 r4)
  · rw [cellE_2 hs] at hat
    exact va_alen hx hb hK r1.1 (a - 1) 1 hat rfl rfl hd (kk H locs ls r1 r2 r3 r4)
  · rw [cellE_3 hs] at hat
    exact va_alen hx hb hK r1.1 (a - 1) 2 hat rfl rfl hd (kk H locs ls r1 r2 r3 r4)
  · rw [cellE_4 hs] at hat
    exact va_alen hx hb hK r1.1 (a - 1) 3 hat rfl rfl hd (kk H locs ls r1 r2 r3 r4)
  · rw [cellE_q hs h5 (by omega)] at hat
    exact va_alen hx hb hK r1.1 (a - 1) (k - 1) hat (tys_q h5 h2) rfl hd (kk H locs ls r1 r2 r3 r4)
/-- the law's script -/
theorem st_slen {X : CX} {M : MX} (C : Ctx X M) {pc : Nat} {L st : List Value} {h : AH} {n : Nat} {xs : Nat → Int32} (hd : decode M.2.1 pc = .ok (.arraylength, 1)) (hs : M.2.2.2.2 = some (n, xs)) (kk : Wst X (pc + 1, L, .int (Int32.ofNat n) :: st) h) : Wst X (pc, L, .retAddr 19 :: st) h := by
  obtain ⟨⟨p, l, e, R, s, m, args, below, meth, c, Qm⟩, ⟨B, D, cid, adK, adV⟩, ⟨nL, n0, u0, E1, E2⟩⟩ := X
  obtain ⟨own, cc, mname, dep, scr⟩ := M
  obtain ⟨hx, hb, hml, hown, hts, hK, hstr, hsz, hnm, hroom, hscr⟩ := C
  intro H locs ls r1 r2 r3 r4
  obtain ⟨g1, g2⟩ := hscr n xs hs
  exact va_slen hx hb g1 (by omega) (by simp only [AB]; omega) r2 hd (kk H locs ls r1 r2 r3 r4)
theorem st_sald {X : CX} {M : MX} (C : Ctx X M) {pc : Nat} {L st : List Value} {h : AH} {n : Nat} {xs : Nat → Int32} {i : Int32} (hd : decode M.2.1 pc = .ok (.iaload, 1)) (hs : M.2.2.2.2 = some (n, xs)) (hi : vp_in i n) (kk : Wst X (pc + 1, L, .int (xs i.toNatClampNeg) :: st) h) : Wst X (pc, L, .int i :: .retAddr 19 :: st) h := by
  obtain ⟨⟨p, l, e, R, s, m, args, below, meth, c, Qm⟩, ⟨B, D, cid, adK, adV⟩, ⟨nL, n0, u0, E1, E2⟩⟩ := X
  obtain ⟨own, cc, mname, dep, scr⟩ := M
  obtain ⟨hx, hb, hml, hown, hts, hK, hstr, hsz, hnm, hroom, hscr⟩ := C
  intro H locs ls r1 r2 r3 r4
  obtain ⟨g1, g2⟩ := hscr n xs hs
  exact va_sld hx hb g1 (by omega) (by simp only [AB]; omega) r2 hi hd (kk H locs ls r1 r2 r3 r4)
